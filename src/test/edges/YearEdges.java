/** Years on the pad: signs, faults, acts that can not be, and what is behind them. */
final class YearEdges extends Edges {
    private static final String ACT_1 = "1 the PIECE is not at SEA (a digit alone), not ASHORE (taken home)";
    private static final String ACT_2 = "2 it is of a PIECE already (taking), of none (burning; WEDDING, one of both)";
    private static final String ACT_3 = "3 both are one (WEDDING)";
    private static final String ACT_4 = "4 it is WED already (one of both), is not WED (parting)";
    private static final String ACT_5 = "5 their PIECES are of one WRECK (WEDDING)";
    private static final String ACT_6 = "6 it is year 99 (.)";
    private static final String LEAST = "An ACT can not be for the least of these reasons";
    private static final String FAULT = "the place (from 0 on) of the first sign that can not stand there";
    private static final String MORE = "the number of signs, if more must come";

    /** An object in which A and B are wed, at the end of this year, a multiple of 33. */
    private static DriftKin wedIn(int year) {
        DriftKin x = kin("01A0B1A+B");
        for (int i = 0; i < year; i += 33) did(x, ".".repeat(33));
        return x;
    }

    // ---- signs

    @Says(of = 5, value = "codes 33 to 126")
    static void aSignTooSmall() {
        DriftKin x = new DriftKin();
        for (int sign : new int[] {LOW, -1, 0, 10, 31, 32}) due("say " + sign, x.say(sign), OUTSIDE);
        due("say 33", x.say(33), 1);
    }

    @Says(of = 5, value = "codes 33 to 126")
    static void aSignTooLarge() {
        DriftKin x = new DriftKin();
        for (int sign : new int[] {127, 128, 256 + 48, 65536 + 48, HIGH}) due("say " + sign, x.say(sign), OUTSIDE);
        due("say 126", x.say(126), 1);
    }

    @Says(of = 5, value = "codes 33 to 126")
    static void eachSignBetweenThem() {
        DriftKin x = new DriftKin();
        for (int sign = 33; sign <= 126; sign++) {
            due("say " + sign, x.say(sign), 1);
            due("wipe", x.wipe(), 1);
        }
    }

    @Says(of = 5, value = "A sign more: how many.")
    static void sayAnswersHowMany() {
        DriftKin x = new DriftKin();
        for (int i = 1; i <= 60; i++) due("say " + i, x.say('~'), i);
    }

    @Says(of = 5, value = "YEARS are a text on a PAD (60 SIGNS at most")
    static void aFullPad() {
        DriftKin x = pad("0".repeat(59));
        due("the sixtieth", x.say('A'), 60);
        due("the next", x.say('0'), FULL);
        due("and the next", x.say('0'), FULL);
        due("signs", x.told(0), 60);
    }

    @Says(of = 6, value = "Signs go: how many there were.")
    static void wipeOfAnEmptyPad() {
        DriftKin x = new DriftKin();
        due("new", x.wipe(), 0);
        x.say('x');
        due("one", x.wipe(), 1);
        due("again", x.wipe(), 0);
    }

    @Says(of = 6, value = "Signs go: how many there were.")
    static void wipeOfAFullPad() {
        DriftKin x = pad("0".repeat(60));
        due("wipe", x.wipe(), 60);
        due("signs", x.told(0), 0);
        due("nothing is said any more", x.then(0), 0);
        for (int i = 1; i <= 60; i++) due("say " + i, x.say('.'), i);
        due("sixty years", x.then(2), 60);
    }

    @Says(of = 6, value = "Signs go: how many there were.")
    static void wipeLeavesAllElse() {
        DriftKin x = kin("0.");
        x.heard(1, 1, true);
        say(x, "A0");
        x.wipe();
        due("piece", x.told(15), 1);
        due("year", x.told(1), 1);
        due("sights", x.told(2), 1);
        due("no act", x.done(), 0);
    }

    // ---- faults

    @Says(of = 7, value = "THE FAULT; NONE.")
    static void noFault() {
        for (String years : new String[] {"", ".", "0", "9", "A0", "H9", "A+H", "H+A", "A-", "A*", "0A0.A*.H-A+B9"}) {
            due("fault of " + years, pad(years).fault(), NONE);
        }
    }

    @Says(of = 7, value = "a digit (that PIECE comes ASHORE); a HOUSE's letter and")
    static void whatCanStandAtFirst() {
        standing("", "0123456789.", "ABCDEFGH");
    }

    @Says(of = 7, value = "a digit (it takes that PIECE home, and is of it), + and a HOUSE's letter (both WED)")
    static void whatCanStandBehindALetter() {
        standing("A", "0123456789-*", "+");
        standing("H", "0123456789-*", "+");
        standing("0A0.H", "0123456789-*", "+");
    }

    @Says(of = 7, value = "+ and a HOUSE's letter (both WED)")
    static void whatCanStandBehindAPlus() {
        standing("A+", "ABCDEFGH", "");
        standing("H+", "ABCDEFGH", "");
    }

    @Says(of = 7, value = "HOUSES 0 to 7 (A to H)")
    static void anActBehindEachKindOfAct() {
        for (String act : new String[] {"0", "A0", "A+B", "A-", "A*", "."}) standing(act, "0123456789.", "ABCDEFGH");
    }

    /** Each of the 94 signs behind these: it can stand at the end, or with more to come, or is the fault. */
    private static void standing(String before, String atTheEnd, String withMore) {
        int place = before.length();
        for (char sign = 33; sign <= 126; sign++) {
            int fault = place;
            if (atTheEnd.indexOf(sign) >= 0) fault = NONE;
            if (withMore.indexOf(sign) >= 0) fault = place + 1;
            due("fault of " + before + sign, pad(before + sign).fault(), fault);
        }
    }

    @Says(of = 7, value = FAULT)
    static void theFirstOfTwoFaults() {
        due("of two", pad("0xx").fault(), 1);
        due("a wrong sign ahead of more that must come", pad("0ABA").fault(), 2);
        due("the first sign", pad("xA").fault(), 0);
    }

    @Says(of = 7, value = FAULT)
    static void theFaultAtTheLastPlace() {
        due("the sixtieth of wrong", pad(".".repeat(59) + "x").fault(), 59);
        due("the sixtieth behind a letter", pad(".".repeat(58) + "A.").fault(), 59);
    }

    @Says(of = 7, value = MORE)
    static void moreMustComeBehindALetter() {
        due("a letter alone", pad("A").fault(), 1);
        due("a letter behind acts", pad("0.A0H").fault(), 5);
    }

    @Says(of = 7, value = MORE)
    static void moreMustComeBehindAPlus() {
        due("a plus", pad("A+").fault(), 2);
        due("a plus behind acts", pad("0.A0H+").fault(), 6);
    }

    @Says(of = 7, value = MORE)
    static void moreMustComeOnAFullPad() {
        due("sixty, a letter last", pad(".".repeat(59) + "A").fault(), 60);
        due("sixty, a plus last", pad(".".repeat(58) + "A+").fault(), 60);
        due("sixty, all said", pad(".".repeat(58) + "A*").fault(), NONE);
    }

    @Says(of = 7, value = "THE FAULT; NONE.")
    static void whatCanNotBeIsNoFault() {
        for (String years : new String[] {"00", "A0", "A+A", "A-", "A*"}) due("fault of " + years, pad(years).fault(), NONE);
        DriftKin x = wedIn(99);
        x.say('.');
        due("fault in year 99", x.fault(), NONE);
    }

    // ---- acts that can not be

    @Says(of = 8, value = "JUDGED: the ACT (what = 0), why (1); NONE.")
    static void noYearsCanBe() {
        judged("", NONE, NONE);
        DriftKin x = new DriftKin();
        judged(x, "A*", 0, 2);
        judged(x, "", NONE, NONE);
        due("then", x.then(2), 0);
        due("done", x.done(), 0);
    }

    @Says(of = 8, value = "(what = 0), why (1); NONE. OUTSIDE; NO: there is a FAULT.")
    static void judgeOfAnotherThing() {
        DriftKin x = new DriftKin();
        for (int what : new int[] {LOW, -1, 2, HIGH}) due("judge " + what, x.judge(what), OUTSIDE);
    }

    @Says(of = 8, value = "NO: there is a FAULT.")
    static void judgeOfAFault() {
        for (String years : new String[] {"x", "A", "A+", "0A", "00A", "A0x", ".".repeat(59) + "A"}) {
            due("judge(0) of " + years, pad(years).judge(0), NO);
            due("judge(1) of " + years, pad(years).judge(1), NO);
        }
    }

    @Says(of = 8, value = "of YEARS the first ACT (from 0 on) that can not be, and why")
    static void theFirstActThatCanNotBe() {
        judged("A*A-", 0, 2);
        judged("A-A*", 0, 4);
        judged("00A0A0", 1, 1);
        judged("0A0.A+AA*A*", 3, 3);
        judged(".".repeat(58) + "A*", 58, 2);
        judged("0".repeat(60), 1, 1);
    }

    @Says(of = 8, value = "of YEARS the first ACT (from 0 on) that can not be, and why")
    static void actsAreCountedNotSigns() {
        judged("0A0A+B", 2, 2);
        judged("01A0B1A+BA-A-", 6, 4);
        judged("01A0B1A+BA*.A*", 7, 2);
    }

    @Says(of = 8, value = ACT_1)
    static void aDigitAloneOfAPieceNotAtSea() {
        judged("00", 1, 1);
        judged("0A00", 2, 1);
        judged("0A0A*0", 3, 1);
        judged("99", 1, 1);
        judged("0123456789", NONE, NONE);
    }

    @Says(of = 8, value = ACT_1)
    static void takingAPieceNotAshore() {
        judged("A0", 0, 1);
        judged("0A0B0", 2, 1);
        judged("0A0A*A0", 3, 1);
        judged("0A0A*B0", 3, 1);
        judged("0A1", 1, 1);
        judged("9H9", NONE, NONE);
    }

    @Says(of = 8, value = ACT_2)
    static void takingWhenItIsOfAPieceAlready() {
        judged("01A0A1", 3, 2);
        judged("01A0A*A1", NONE, NONE);
        judged("01A0B1", NONE, NONE);
    }

    @Says(of = 8, value = ACT_2)
    static void burningWhenItIsOfNone() {
        judged("A*", 0, 2);
        judged("0A0A*A*", 3, 2);
        judged("0A0B*", 2, 2);
        judged("0A0A*", NONE, NONE);
    }

    @Says(of = 8, value = ACT_2)
    static void weddingWhenOneIsOfNone() {
        judged("A+B", 0, 2);
        judged("0A0A+B", 2, 2);
        judged("0A0B+A", 2, 2);
        judged("01A0B1B*A+B", 5, 2);
        judged("01A0B1A+B", NONE, NONE);
        judged("01A0B1B+A", NONE, NONE);
    }

    @Says(of = 8, value = ACT_3)
    static void weddingItself() {
        judged("0A0A+A", 2, 3);
        judged("9H9H+H", 2, 3);
    }

    @Says(of = 8, value = ACT_4)
    static void weddingWhenOneIsWed() {
        judged("012A0B1C2A+BA+C", 7, 4);
        judged("012A0B1C2A+BC+A", 7, 4);
        judged("012A0B1C2A+BB+C", 7, 4);
        judged("012A0B1C2A+BC+B", 7, 4);
        judged("01A0B1A+BA+B", 5, 4);
        judged("01A0B1A+BB+A", 5, 4);
        judged("012A0B1C2A+BA-A+C", NONE, NONE);
    }

    @Says(of = 8, value = ACT_4)
    static void partingWhenItIsNotWed() {
        judged("A-", 0, 4);
        judged("0A0A-", 2, 4);
        judged("01A0B1A+BA-A-", 6, 4);
        judged("01A0B1A+BA-B-", 6, 4);
        judged("01A0B1A+BB-A-", 6, 4);
        judged("01A0B1A+BC-", 5, 4);
        judged("01A0B1A+BB-", NONE, NONE);
    }

    @Says(of = 8, value = ACT_5)
    static void weddingOfOneWreck() {
        DriftKin x = new DriftKin();
        x.piece(9, 0, 3, 20);
        judged(x, "09A0B9A+B", 4, 5);
        judged(x, "09A0B9B+A", 4, 5);
        judged(x, "01A0B1A+B", NONE, NONE);
        judged(x, "091A0B9B*B1A+B", NONE, NONE);
        judged(x, "091A1B9B*B0A+B", NONE, NONE);
        judged(x, "091A1A*A9B0A+B", 7, 5);
    }

    @Says(of = 8, value = ACT_6)
    static void theLastYear() {
        DriftKin x = wedIn(66);
        did(x, ".".repeat(32));
        due("year 98", x.told(1), 98);
        judged(x, ".", NONE, NONE);
        judged(x, "..", 1, 6);
        did(x, ".");
        due("year 99", x.told(1), 99);
        judged(x, ".", 0, 6);
        judged(x, "2.", 1, 6);
        judged(x, "2C2C*A-", NONE, NONE);
    }

    @Says(of = 8, value = LEAST)
    static void reasonOneAheadOfTwo() {
        judged("0A0A1", 2, 1);
        judged("0A0A0", 2, 1);
    }

    @Says(of = 8, value = LEAST)
    static void reasonTwoAheadOfThree() {
        judged("A+A", 0, 2);
        judged("0A0A*A+A", 3, 2);
    }

    @Says(of = 8, value = LEAST)
    static void reasonTwoAheadOfFour() {
        judged("01A0B1A+BB*A+B", 6, 2);
        judged("012A0B1C2A+BA*C+A", 8, 2);
        judged("01A0B1A+BA+C", 5, 2);
    }

    @Says(of = 8, value = LEAST)
    static void reasonThreeAheadOfFourAndFive() {
        judged("01A0B1A+BA+A", 5, 3);
        judged("01A0B1A+BB+B", 5, 3);
    }

    @Says(of = 8, value = LEAST)
    static void reasonFourAheadOfFive() {
        DriftKin x = new DriftKin();
        x.piece(2, 0, 0, 1);
        judged(x, "012A0B1C2A+BA+C", 7, 4);
        judged(x, "012A0B1C2A+BC+A", 7, 4);
    }

    @Says(of = 8, value = "JUDGED: the ACT (what = 0), why (1); NONE.")
    static void judgingDoesNothing() {
        DriftKin x = fullOfThings();
        long[] before = state(x);
        x.judge(0);
        x.judge(1);
        same("judge", x, before);
    }

    // ---- done

    @Says(of = 9, value = "(it is empty then): ACTS.")
    static void doneOfAnEmptyPad() {
        DriftKin x = fullOfThings();
        x.wipe();
        long[] before = state(x);
        due("done", x.done(), 0);
        same("nothing done", x, before);
    }

    @Says(of = 9, value = "(it is empty then): ACTS.")
    static void doneOfAFullPad() {
        DriftKin x = pad(".".repeat(60));
        due("done", x.done(), 60);
        due("year", x.told(1), 60);
        due("signs", x.told(0), 0);
        due("a sign", x.say('.'), 1);
    }

    @Says(of = 9, value = "YEARS on the PAD are DONE (it is empty then): ACTS.")
    static void thePadIsEmptyThen() {
        DriftKin x = pad("01A0B1A+B.A-B*");
        due("acts", x.done(), 8);
        due("signs", x.told(0), 0);
        due("again", x.done(), 0);
        due("wipe", x.wipe(), 0);
    }

    @Says(of = 9, value = "NO: there is a FAULT, or an ACT that can not be.")
    static void doneWithAFault() {
        for (String years : new String[] {"x", "A", "A+", "0.A", "0.Ax", ".".repeat(59) + "A"}) {
            DriftKin x = pad(years);
            due("done of " + years, x.done(), NO);
            due("signs stay", x.told(0), years.length());
            due("year stays", x.told(1), 0);
            due("pieces stay", x.told(15), 0);
        }
    }

    @Says(of = 9, value = "NO: there is a FAULT, or an ACT that can not be.")
    static void doneWithAnActThatCanNotBe() {
        for (String years : new String[] {"00", "0.A1", "A+A", "A-", "A*", "0.A0B0"}) {
            DriftKin x = pad(years);
            due("done of " + years, x.done(), NO);
            due("signs stay", x.told(0), years.length());
            due("year stays", x.told(1), 0);
            due("pieces stay", x.told(15), 0);
            due("the pad can still be judged", x.judge(0) >= 0 ? 1 : 0, 1);
        }
        DriftKin x = wedIn(99);
        say(x, "A-.");
        due("done in year 99", x.done(), NO);
        due("still wed", x.told(201), 1);
    }

    @Says(of = 9, value = "DONE: all is so then.")
    static void eachActIsDone() {
        DriftKin x = kin("0");
        due("ashore", x.told(15), 1);
        did(x, "A0");
        due("at a house", x.told(15), 2);
        due("of it", x.told(200), 0);
        did(x, "1B1A+B");
        due("A is wed", x.told(201), 1);
        due("B is wed", x.told(211), 0);
        did(x, ".");
        due("the year", x.told(1), 1);
        did(x, "B-");
        due("A is parted", x.told(201), NONE);
        due("B is parted", x.told(211), NONE);
        did(x, "A*");
        due("burnt", x.told(15), 3);
        due("of none", x.told(200), NONE);
    }

    @Says(of = 9, value = "* (its PIECE is BURNT, and it is of none)")
    static void whoIsNobodysStaysWed() {
        DriftKin x = kin("012A0B1A+B.A*");
        due("wed", x.told(201), 1);
        due("the other too", x.told(211), 0);
        due("children stay", x.told(202), 1);
        did(x, ".");
        due("children still come", x.told(202) * 10 + x.told(212), 22);
        did(x, "A2A-");
        due("another piece, and parted", x.told(200) * 10 + x.told(35), 22);
        due("parted", x.told(211), NONE);
    }

    @Says(of = 9, value = "- (it is parted from whom it is WED to)")
    static void partingIsOfBothAndOfNoOthers() {
        for (String parting : new String[] {"A-", "C-"}) {
            DriftKin x = kin("0123A0B1C2D3A+CB+D." + parting + ".");
            due("A by " + parting, x.told(201), NONE);
            due("C by " + parting, x.told(221), NONE);
            due("B by " + parting, x.told(211), 3);
            due("D by " + parting, x.told(231), 1);
            due("children of A and C stay", 10 * x.told(202) + x.told(222), 11);
            due("B and D have more", 10 * x.told(212) + x.told(232), 22);
            due("A is of its piece still", x.told(200), 0);
        }
    }

    @Says(of = 9, value = "HOUSES 0 to 7 (A to H): each is of a PIECE, or of none (at first)")
    static void allEightHousesAreOfAPiece() {
        DriftKin x = kin("0123456789A9B8C7D6E5F4G3H2");
        for (int h = 0; h < 8; h++) due("house " + h, x.told(200 + 10 * h), 9 - h);
        did(x, "A*B*C*D*E*F*G*H*");
        for (int h = 0; h < 8; h++) due("house " + h, x.told(200 + 10 * h), NONE);
        for (int p = 2; p < 10; p++) due("piece " + p, x.told(10 * (1 + p) + 5), 3);
        due("two are ashore", x.then(0), 3);
    }

    @Says(of = 9, value = "it takes that PIECE home, and is of it")
    static void onlyTheTakerIsOfIt() {
        DriftKin x = kin("9");
        did(x, "H9");
        due("house H", x.told(270), 9);
        due("its place", x.told(105), 2);
        due("house A is left alone", x.told(200), NONE);
    }

    // ---- years and children

    @Says(of = {9, 11}, value = ". (a year: each HOUSE that is WED has 1 more of CHILDREN, 99 at most)")
    static void onlyWhoIsWedHasChildren() {
        DriftKin x = kin("012345A0B1C2D3E4H5.A+HB+C.H-..");
        int[] due = {1, 3, 3, 0, 0, 0, 0, 1};
        for (int h = 0; h < 8; h++) due("children of " + h, x.told(202 + 10 * h), due[h]);
        due("year", x.told(1), 4);
    }

    @Says(of = {9, 11}, value = "each HOUSE that is WED has 1 more of CHILDREN, 99 at most")
    static void ninetyNineChildren() {
        DriftKin x = wedIn(66);
        did(x, ".".repeat(32));
        due("98", x.told(202), 98);
        x.say('.');
        due("99 behind", x.behind(0, 2), 99);
        due("99 of the other", x.behind(1, 2), 99);
        due("done", x.done(), 1);
        due("99", x.told(202), 99);
        x.say('.');
        due("no hundredth", x.done(), NO);
        due("still 99", x.told(212), 99);
        due("a book brings none more", x.book(4, 99, 1), 198);
    }

    // ---- behind the years

    @Says(of = 10, value = "BEHIND: where a PIECE is. UNKNOWN; NO, as of done().")
    static void whereOfNoSuchPiece() {
        DriftKin x = pad("0");
        for (int p : new int[] {LOW, -1, 10, HIGH}) due("where " + p, x.where(p), UNKNOWN);
        due("where 0", x.where(0), 1);
        due("where 9", x.where(9), 0);
    }

    @Says(of = 10, value = "It is at SEA (0; at first), ASHORE (1), at a HOUSE (2), or BURNT (3).")
    static void whereOfEachPlace() {
        DriftKin x = pad("123A2B3B*");
        for (int p = 0; p <= 3; p++) due("where " + p, x.where(p), p);
        for (int p = 0; p <= 3; p++) due("not done, " + p, x.told(10 * (1 + p) + 5), 0);
    }

    @Says(of = {10, 11, 12}, value = "NO, as of done().")
    static void behindYearsWithAFault() {
        for (String years : new String[] {"x", "A", "A+", "0A", ".".repeat(59) + "A"}) {
            DriftKin x = pad(years);
            due("where behind " + years, x.where(0), NO);
            for (int what = 0; what <= 2; what++) due("behind behind " + years, x.behind(0, what), NO);
            for (int what = 0; what <= 2; what++) due("then behind " + years, x.then(what), NO);
        }
    }

    @Says(of = {10, 11, 12}, value = "NO, as of done().")
    static void behindYearsThatCanNotBe() {
        for (String years : new String[] {"00", "A0", "A+A", "A-", ".A*"}) {
            DriftKin x = pad(years);
            due("where behind " + years, x.where(9), NO);
            for (int what = 0; what <= 2; what++) due("behind behind " + years, x.behind(7, what), NO);
            for (int what = 0; what <= 2; what++) due("then behind " + years, x.then(what), NO);
        }
    }

    @Says(of = {10, 11, 12}, value = "BEHIND, likewise, not being DONE")
    static void behindAnEmptyPadAllIsAsItIs() {
        DriftKin x = kin("01A0B1A+B.2");
        due("where", 100 * x.where(0) + 10 * x.where(2) + x.where(3), 210);
        due("behind", 100 * x.behind(0, 0) + 10 * x.behind(0, 1) + x.behind(0, 2), 11);
        due("then ashore", x.then(0), 4);
        due("then weddings", x.then(1), 0);
        due("then year", x.then(2), 1);
    }

    @Says(of = {10, 11, 12}, value = "not being DONE")
    static void lookingBehindDoesNothing() {
        DriftKin x = fullOfThings();
        x.wipe();
        say(x, "4D4C+D.A-");
        long[] before = state(x);
        due("children then", x.behind(3, 2), 1);
        due("now", x.told(232), 0);
        x.where(4);
        x.then(1);
        same("behind", x, before);
    }

    @Says(of = 11, value = "UNKNOWN; OUTSIDE; NO, likewise.")
    static void behindOfNoSuchHouse() {
        DriftKin x = new DriftKin();
        for (int h : new int[] {LOW, -1, 8, 9, HIGH}) due("behind " + h, x.behind(h, 0), UNKNOWN);
        due("house 7", x.behind(7, 2), 0);
    }

    @Says(of = 11, value = "the PIECE (what = 0; NONE), WED (1; NONE), CHILDREN (2).")
    static void behindOfAnotherThing() {
        DriftKin x = new DriftKin();
        for (int what : new int[] {LOW, -1, 3, HIGH}) due("behind what " + what, x.behind(0, what), OUTSIDE);
    }

    @Says(of = 11, value = "of a HOUSE the PIECE that it is of (NONE)")
    static void behindOfNone() {
        due("never", pad("0").behind(0, 0), NONE);
        due("taken", pad("0A0").behind(0, 0), 0);
        due("the last one", pad("9H9").behind(7, 0), 9);
        due("burnt", pad("0A0A*").behind(0, 0), NONE);
        due("another", pad("01A0A*A1").behind(0, 0), 1);
    }

    @Says(of = 11, value = "to whom it is WED (NONE)")
    static void behindWedToNone() {
        due("never", pad("0A0").behind(0, 1), NONE);
        due("the first", pad("01A0H1A+H").behind(0, 1), 7);
        due("the last", pad("01A0H1A+H").behind(7, 1), 0);
        due("parted", pad("01A0H1A+HA-").behind(0, 1), NONE);
        due("parted by the other", pad("01A0H1A+HA-").behind(7, 1), NONE);
        due("burnt and still wed", pad("01A0H1A+HA*").behind(7, 1), 0);
    }

    @Says(of = 12, value = "OUTSIDE; NO, likewise.")
    static void thenOfAnotherThing() {
        DriftKin x = new DriftKin();
        for (int what : new int[] {LOW, -1, 3, HIGH}) due("then " + what, x.then(what), OUTSIDE);
    }

    @Says(of = 12, value = "PIECES that are ASHORE (bits)")
    static void noneAndAllAshore() {
        due("none", new DriftKin().then(0), 0);
        due("the first", pad("0").then(0), 1);
        due("the last", pad("9").then(0), 512);
        due("all", pad("0123456789").then(0), 1023);
        due("neither home nor burnt", pad("0123A0B1B*").then(0), 12);
        due("those from before too", kin("3").then(0), 8);
    }

    @Says(of = 12, value = "weddings that were in these YEARS")
    static void weddingsInTheseYearsAlone() {
        DriftKin x = kin("0123A0B1C2D3A+B");
        due("none on an empty pad", x.then(1), 0);
        say(x, "C+D");
        due("one", x.then(1), 1);
        say(x, "A-B+A");
        due("two", x.then(1), 2);
        say(x, "B-");
        due("parting takes none away", x.then(1), 2);
        x.done();
        due("none again", x.then(1), 0);
    }

    @Says(of = 12, value = "weddings (1), the year (2)")
    static void theYearBehind() {
        due("none", pad("0").then(2), 0);
        due("sixty", pad(".".repeat(60)).then(2), 60);
        DriftKin x = wedIn(66);
        say(x, ".".repeat(33));
        due("99", x.then(2), 99);
        x.say('.');
        due("no more", x.then(2), NO);
    }
}
