/** The wheel, sawing, gales, year-books, images and what is told. */
final class WheelEdges extends Edges {
    // ---- sights

    @Says(of = 18, value = "UNKNOWN; OUTSIDE; FULL.")
    static void heardAtNoSuchHouse() {
        DriftKin x = new DriftKin();
        for (int h : new int[] {LOW, -1, 8, HIGH}) due("heard at " + h, x.heard(h, 0, true), UNKNOWN);
        due("heard at 0", x.heard(0, 7, true), 1);
        due("heard at 7", x.heard(7, 7, false), 2);
    }

    @Says(of = 18, value = "in their row no more than d, 0 to 7, off")
    static void heardTooFarOff() {
        DriftKin x = new DriftKin();
        for (int d : new int[] {LOW, -1, 8, HIGH}) {
            due("heard " + d + " off", x.heard(3, d, true), OUTSIDE);
            due("not heard " + d + " off", x.heard(3, d, false), OUTSIDE);
        }
        due("heard 0 off", x.heard(3, 0, true), 1);
        due("heard 7 off", x.heard(3, 7, true), 2);
        due("both stand", x.wheel(), 8);
    }

    @Says(of = 18, value = "SIGHTS, 8 at most")
    static void sightsAreFull() {
        DriftKin x = new DriftKin();
        for (int i = 1; i <= 8; i++) due("sight " + i, x.heard(0, 4, true), i);
        due("the ninth", x.heard(0, 4, true), FULL);
        due("the ninth that would be another one", x.heard(7, 7, false), FULL);
        due("sights", x.told(2), 8);
        due("A to E: A, 1 off, is asked next still", x.ask(0), 1);
        x.forget();
        due("one again", x.heard(0, 4, true), 1);
    }

    @Says(of = 18, value = "A SIGHT more: how many.")
    static void allEightSightsCount() {
        DriftKin x = new DriftKin();
        for (int h = 0; h < 7; h++) x.heard(h, 0, false);
        due("seven are out", x.wheel(), 128);
        x.heard(7, 0, false);
        due("the eighth counts too", x.wheel(), 0);
    }

    @Says(of = 19, value = "SIGHTS go: how many there were.")
    static void forgetNoneAndAll() {
        DriftKin x = new DriftKin();
        due("none", x.forget(), 0);
        for (int i = 0; i < 8; i++) x.heard(0, 0, true);
        due("eight", x.forget(), 8);
        due("again", x.forget(), 0);
        due("sights", x.told(2), 0);
        due("anywhere", x.wheel(), 255);
    }

    // ---- the wheel

    @Says(of = 20, value = "at a HOUSE the wheel was heard (it is in one of the eight HOUSES")
    static void eachOfTheEightHouses() {
        for (int house = 0; house < 8; house++) {
            due("heard in " + house, wheel(house, 0, true), 1 << house);
            due("not heard in " + house, wheel(house, 0, false), 255 - (1 << house));
        }
    }

    @Says(of = 20, value = "WHEEL: HOUSES in which it can be, as bits.")
    static void withoutSightsItCanBeAnywhere() {
        due("wheel", new DriftKin().wheel(), 255);
    }

    @Says(of = 20, value = "in their row no more than d, 0 to 7, off")
    static void theRowHasEnds() {
        due("at A, 1 off", wheel(0, 1, true), 3);
        due("at H, 1 off", wheel(7, 1, true), 192);
        due("at B, 2 off", wheel(1, 2, true), 15);
        due("at G, 2 off", wheel(6, 2, true), 240);
        due("not at A, 1 off", wheel(0, 1, false), 252);
        due("not at H, 6 off", wheel(7, 6, false), 1);
    }

    @Says(of = 20, value = "in their row no more than d, 0 to 7, off), or was not")
    static void noughtAndSevenOff() {
        due("in the house itself", wheel(4, 0, true), 16);
        due("not in the house itself", wheel(4, 0, false), 239);
        due("7 off A is all", wheel(0, 7, true), 255);
        due("6 off A is not H", wheel(0, 6, true), 127);
        due("7 off and not heard", wheel(7, 7, false), 0);
        due("4 off in the middle is all", wheel(3, 4, true), 255);
    }

    private static int wheel(int house, int d, boolean is) {
        DriftKin x = new DriftKin();
        x.heard(house, d, is);
        return x.wheel();
    }

    @Says(of = 20, value = "the same all times")
    static void sightsThatFightLeaveNone() {
        DriftKin x = new DriftKin();
        x.heard(2, 1, true);
        due("B, C, D", x.wheel(), 14);
        x.heard(3, 0, false);
        due("B, C", x.wheel(), 6);
        x.heard(2, 1, false);
        due("none", x.wheel(), 0);
    }

    // ---- asking

    @Says(of = 21, value = "ASK: where, and d (what = 0), how many (1); NONE: it can be nowhere. OUTSIDE.")
    static void askOfAnotherThing() {
        DriftKin x = new DriftKin();
        for (int what : new int[] {LOW, -1, 2, HIGH}) due("ask " + what, x.ask(what), OUTSIDE);
    }

    @Says(of = 21, value = "NONE: it can be nowhere.")
    static void askWhenItCanBeNowhere() {
        DriftKin x = new DriftKin();
        x.heard(4, 7, false);
        due("where", x.ask(0), NONE);
        due("how many", x.ask(1), NONE);
    }

    @Says(of = 21, value = "(10 times the HOUSE and d, the least)")
    static void askForTheLeast() {
        DriftKin x = new DriftKin();
        due("A, 3 off, of all", x.ask(0), 3);
        due("four are left", x.ask(1), 4);
        x.heard(0, 4, true);
        due("A, 1 off, of five: two or three", x.ask(0), 1);
        due("three are left at the most", x.ask(1), 3);
    }

    @Says(of = 21, value = "heard or not, fewest of these are left at the most")
    static void askWhenOneIsLeft() {
        DriftKin x = new DriftKin();
        x.heard(5, 0, true);
        due("A, 0 off", x.ask(0), 0);
        due("one is left", x.ask(1), 1);
    }

    @Says(of = 21, value = "heard or not, fewest of these are left at the most")
    static void askAmongFarHouses() {
        DriftKin x = new DriftKin();
        for (int h : new int[] {1, 2, 3, 5, 6}) x.heard(h, 0, false);
        due("A, E, H are left", x.wheel(), 1 + 16 + 128);
        due("A, 0 off: A or two", x.ask(0), 0);
        due("two", x.ask(1), 2);
        x.heard(0, 0, false);
        due("E or H: A, 4 off", x.ask(0), 4);
        due("one", x.ask(1), 1);
    }

    @Says(of = 21, value = "heard or not, fewest of these are left at the most")
    static void askHalvesWhatIsLeft() {
        DriftKin x = new DriftKin();
        x.heard(1, 0, false);
        x.heard(2, 0, false);
        x.heard(5, 0, false);
        x.heard(6, 0, false);
        due("A, D, E, H", x.wheel(), 1 + 8 + 16 + 128);
        due("A, 3 off: two and two", x.ask(0), 3);
        due("two are left", x.ask(1), 2);
        due("nothing is heard by asking", x.told(2), 4);
    }

    // ---- sawing

    @Says(of = 22, value = "two by turns saw 1 to k (1 to 9) off")
    static void sawTooLittleOrTooMuch() {
        DriftKin x = kin("0");
        for (int k : new int[] {LOW, -1, 0, 10, HIGH}) {
            due("saw(" + k + ", 0)", x.saw(k, 0), OUTSIDE);
            due("saw(" + k + ", 1)", x.saw(k, 1), OUTSIDE);
        }
        due("k 1", x.saw(1, 1), 1);
        due("k 9", x.saw(9, 1), 1);
    }

    @Says(of = 22, value = "SAW: whether (what = 0), which (1; NONE). OUTSIDE.")
    static void sawOfAnotherThing() {
        DriftKin x = kin("0");
        for (int what : new int[] {LOW, -1, 2, HIGH}) due("saw what " + what, x.saw(1, what), OUTSIDE);
    }

    @Says(of = 22, value = "who can not has lost")
    static void whoCanNotSawHasLost() {
        DriftKin x = new DriftKin();
        for (int k = 1; k <= 9; k++) {
            due("none ashore, whether by " + k, x.saw(k, 0), 0);
            due("none ashore, which by " + k, x.saw(k, 1), NONE);
        }
        did(x, "5");
        due("the last bit is his who begins", x.saw(1, 0), 1);
        due("which", x.saw(1, 1), 501);
    }

    @Says(of = 22, value = "off one of the PIECES that are ASHORE")
    static void onlyPiecesAshoreAreSawn() {
        DriftKin x = kin("12A2");
        x.piece(0, 0, 0, 3);
        x.piece(1, 1, 0, 4);
        x.piece(2, 2, 0, 5);
        due("piece 1 alone", x.saw(9, 1), 104);
        did(x, "B1");
        due("none at a house", x.saw(9, 1), NONE);
        did(x, "B*");
        due("none that is burnt", x.saw(9, 0), 0);
        did(x, "0");
        due("piece 0", x.saw(9, 1), 3);
        say(x, "3");
        due("none on the pad", x.saw(9, 1), 3);
    }

    @Says(of = 22, value = "(of what it is LONG; till nothing of it is left)")
    static void noMoreIsSawnThanThereIs() {
        DriftKin x = kin("4");
        for (int length = 1; length <= 9; length++) {
            x.piece(4, 4, 0, length);
            due("all of " + length, x.saw(9, 1), 400 + length);
        }
        x.piece(4, 4, 0, 10);
        due("ten by nine is lost", x.saw(9, 0), 0);
        due("ten by nine, which", x.saw(9, 1), NONE);
        for (int length = 11; length <= 19; length++) {
            x.piece(4, 4, 0, length);
            due("down to ten of " + length, x.saw(9, 1), 400 + length - 10);
        }
        x.piece(4, 4, 0, 20);
        due("twenty by nine is lost", x.saw(9, 1), NONE);
        due("twenty by eight", x.saw(8, 1), 402);
    }

    @Says(of = 22, value = "saw 1 to k (1 to 9)")
    static void sawingOneOnly() {
        DriftKin x = kin("4");
        for (int length = 1; length <= 20; length++) {
            x.piece(4, 4, 0, length);
            due("whether " + length, x.saw(1, 0), length % 2);
            due("which " + length, x.saw(1, 1), length % 2 == 1 ? 401 : NONE);
        }
    }

    @Says(of = 22, value = "(100 times it and that, the least; NONE)")
    static void theLeastOfTwoThatWin() {
        DriftKin x = kin("38");
        x.piece(3, 3, 0, 2);
        x.piece(8, 8, 0, 2);
        due("alike is lost", x.saw(5, 1), NONE);
        due("alike, whether", x.saw(5, 0), 0);
        x.piece(3, 3, 0, 5);
        due("down to two", x.saw(5, 1), 303);
        x.piece(3, 3, 0, 2);
        x.piece(8, 8, 0, 3);
        due("only the later one", x.saw(5, 1), 801);
        did(x, "0");
        due("one, two and three is lost", x.saw(5, 1), NONE);
        x.piece(3, 3, 0, 3);
        due("one more of three ways: piece 0", x.saw(5, 1), 1);
        x.piece(3, 3, 0, 1);
        due("1, 1 and 3", x.saw(5, 1), 803);
    }

    @Says(of = 22, value = "whether who begins can win (1, 0)")
    static void whoBeginsCanWinOrNot() {
        // All three pieces of 0 (at sea) to 5, against a search of the game that knows no rule for it.
        for (int a = 0; a <= 5; a++) {
            for (int b = 0; b <= a; b++) {
                for (int c = 0; c <= b; c++) {
                    DriftKin x = new DriftKin();
                    ashore(x, 2, a);
                    ashore(x, 5, b);
                    ashore(x, 9, c);
                    for (int k = 1; k <= 4; k++) due("saw by " + k, x.saw(k, 0), canWin(new int[] {a, b, c}, k) ? 1 : 0);
                }
            }
        }
    }

    private static void ashore(DriftKin x, int piece, int length) {
        if (length == 0) return;
        x.piece(piece, piece, 0, length);
        did(x, "" + piece);
    }

    private static boolean canWin(int[] lengths, int k) {
        for (int i = 0; i < lengths.length; i++) {
            for (int much = 1; much <= k && much <= lengths[i]; much++) {
                int[] rest = lengths.clone();
                rest[i] -= much;
                if (!canWin(rest, k)) return true;
            }
        }
        return false;
    }

    @Says(of = 22, value = "Nothing is sawn in fact.")
    static void nothingIsSawnInFact() {
        DriftKin x = fullOfThings();
        long[] before = state(x);
        for (int k = 1; k <= 9; k++) x.saw(k, 0);
        for (int k = 1; k <= 9; k++) x.saw(k, 1);
        same("saw", x, before);
    }

    // ---- gales

    @Says(of = 23, value = "with t tenths (0 to 10)")
    static void tenthsThatAreNot() {
        DriftKin x = new DriftKin();
        for (int t : new int[] {LOW, -1, 11, HIGH}) {
            for (int what = 0; what <= 2; what++) due("t " + t, x.soon(t, 1, what, 0), LOST_OUTSIDE);
        }
        soon(x, 0, 1, 0, 0, 1);
        soon(x, 10, 1, 0, 1, 1);
    }

    @Says(of = 23, value = "within n gales (0 to 15)")
    static void galesThatAreNot() {
        DriftKin x = new DriftKin();
        for (int n : new int[] {LOW, -1, 16, HIGH}) due("n " + n, x.soon(5, n, 0, 0), LOST_OUTSIDE);
        soon(x, 5, 0, 0, 0, 1);
        soon(x, 5, 15, 0, 32767, 32768);
    }

    @Says(of = 23, value = "OUTSIDE: n 0 to 8 for two.")
    static void galesThatAreNotForTwo() {
        DriftKin x = new DriftKin();
        for (int n : new int[] {LOW, -1, 9, 15, 16, HIGH}) {
            due("n " + n + " for one of two", x.soon(5, n, 1, 1), LOST_OUTSIDE);
            due("n " + n + " for both", x.soon(5, n, 2, 1), LOST_OUTSIDE);
        }
        soon(x, 5, 9, 0, 511, 512);
        soon(x, 5, 8, 1, 65535, 65536);
        soon(x, 5, 8, 2, 255 * 255, 65536);
        soon(x, 5, 0, 1, 0, 1);
        soon(x, 5, 0, 2, 0, 1);
    }

    @Says(of = 23, value = "SOON: it (what = 0), one of two (1), both (2).")
    static void soonOfAnotherThing() {
        DriftKin x = new DriftKin();
        for (int what : new int[] {LOW, -1, 3, HIGH}) due("soon what " + what, x.soon(5, 1, what, 0), LOST_OUTSIDE);
        soon(x, 5, 1, 0, 1, 2);
        soon(x, 5, 1, 1, 3, 4);
        soon(x, 5, 1, 2, 1, 4);
    }

    @Says(of = 23, value = "by part: 0 the upper, 1 the lower number")
    static void soonOfAnotherPart() {
        DriftKin x = new DriftKin();
        for (int part : new int[] {LOW, -1, 2, HIGH}) due("part " + part, x.soon(5, 1, 0, part), LOST_OUTSIDE);
    }

    @Says(of = 23, value = "refused with LOST and the refusal")
    static void lostAndTheRefusal() {
        due("soon", new DriftKin().soon(11, 1, 0, 0), -1000000000000000002L);
    }

    @Says(of = 23, value = "Fractions are told in lowest terms")
    static void neverAndSurely() {
        DriftKin x = new DriftKin();
        for (int what = 0; what <= 2; what++) {
            for (int n = 0; n <= 8; n++) soon(x, 0, n, what, 0, 1);
            for (int t = 0; t <= 10; t++) soon(x, t, 0, what, 0, 1);
            soon(x, 10, 1, what, 1, 1);
            soon(x, 10, 8, what, 1, 1);
        }
        soon(x, 10, 15, 0, 1, 1);
        soon(x, 0, 15, 0, 0, 1);
    }

    @Says(of = 23, value = "Fractions are told in lowest terms")
    static void lowestTerms() {
        DriftKin x = new DriftKin();
        soon(x, 2, 1, 0, 1, 5);
        soon(x, 4, 2, 0, 16, 25);
        soon(x, 6, 1, 1, 21, 25);
        soon(x, 6, 1, 2, 9, 25);
        soon(x, 8, 2, 1, 624, 625);
        soon(x, 8, 2, 2, 576, 625);
        soon(x, 3, 2, 0, 51, 100);
    }

    @Says(of = 23, value = "by itself: that it does within n gales (0 to 15); that of two PIECES at least one does; that both do.")
    static void oneGaleOfEachTenths() {
        DriftKin x = new DriftKin();
        for (int t = 0; t <= 10; t++) {
            tenths(x, t, 0, t, 10);
            tenths(x, t, 1, 100 - (10 - t) * (10 - t), 100);
            tenths(x, t, 2, t * t, 100);
        }
    }

    private static void tenths(DriftKin x, int t, int what, long upper, long lower) {
        long shared = lower;
        while (upper % shared != 0 || lower % shared != 0) shared--;
        soon(x, t, 1, what, upper / shared, lower / shared);
    }

    @Says(of = 23, value = "how soon a piece comes in, by chance, exactly")
    static void theLargestNumbers() {
        DriftKin x = new DriftKin();
        soon(x, 1, 15, 0, 1000000000000000L - 205891132094649L, 1000000000000000L);
        soon(x, 9, 15, 0, 999999999999999L, 1000000000000000L);
        soon(x, 1, 8, 1, 10000000000000000L - 43046721L * 43046721L, 10000000000000000L);
        soon(x, 1, 8, 2, 56953279L * 56953279L, 10000000000000000L);
        soon(x, 9, 8, 1, 9999999999999999L, 10000000000000000L);
        soon(x, 9, 8, 2, 99999999L * 99999999L, 10000000000000000L);
    }

    private static void soon(DriftKin x, int t, int n, int what, long upper, long lower) {
        String call = "soon(" + t + ", " + n + ", " + what + ", ";
        due(call + "0)", x.soon(t, n, what, 0), upper);
        due(call + "1)", x.soon(t, n, what, 1), lower);
    }

    // ---- year-books

    @Says(of = 24, value = "A YEAR-BOOK by a seed (0 to 9999)")
    static void seedsThatAreNot() {
        DriftKin x = new DriftKin();
        for (int seed : new int[] {LOW, -1, 10000, HIGH}) {
            for (int what = 0; what <= 2; what++) due("seed " + seed, x.book(seed, 1, what), OUTSIDE);
        }
        due("seed 0", x.book(0, 1, 0), 0);
        due("seed 9999", x.book(9999, 1, 0), 0);
    }

    @Says(of = 24, value = "of m ACTS (1 to 99)")
    static void actsTooFewOrTooMany() {
        DriftKin x = kin("0A0");
        for (int m : new int[] {LOW, -1, 0, 100, HIGH}) due("m " + m, x.book(7, m, 0), OUTSIDE);
        due("m 1", x.book(7, 1, 2), 0);
        due("m 99", x.book(7, 99, 2) >= 0 ? 1 : 0, 1);
    }

    @Says(of = 24, value = "A YEAR-BOOK: HOUSES (what = 0), CHILDREN (1), weddings (2). OUTSIDE.")
    static void bookOfAnotherThing() {
        DriftKin x = new DriftKin();
        for (int what : new int[] {LOW, -1, 3, HIGH}) due("book what " + what, x.book(0, 1, what), OUTSIDE);
    }

    /** The same book told to the pad of another object, act by act; what can not be is wiped. */
    private static void booked(String before, int seed, int m) {
        DriftKin x = kin(before);
        DriftKin y = kin(before);
        int weddings = 0;
        long draw = seed;
        for (int i = 0; i < m; i++) {
            draw = (75 * draw + 74) % 65537;
            weddings += act(y, draw);
        }
        int houses = 0;
        int children = 0;
        for (int h = 0; h < 8; h++) {
            if (y.told(200 + 10 * h) != NONE) houses++;
            children += y.told(202 + 10 * h);
        }
        String book = "book(" + seed + ", " + m + ", ";
        due(book + "0) behind " + before, x.book(seed, m, 0), houses);
        due(book + "1) behind " + before, x.book(seed, m, 1), children);
        due(book + "2) behind " + before, x.book(seed, m, 2), weddings);
    }

    private static int act(DriftKin y, long draw) {
        char piece = (char) ('0' + draw / 8 % 10);
        char first = (char) ('A' + draw / 8 % 8);
        char second = (char) ('A' + draw / 64 % 8);
        String[] acts = {
            "" + piece, "" + piece, "" + second + piece, "" + second + piece,
            first + "+" + second, first + "-", first + "*", ".",
        };
        String act = acts[(int) (draw % 8)];
        say(y, act);
        if (y.done() == NO) {
            y.wipe();
            return 0;
        }
        return act.indexOf('+') < 0 ? 0 : 1;
    }

    @Says(of = 24, value = "x becomes (75 x and 74) left over by 65537")
    static void theFirstDrawIsBehindTheSeed() {
        // 4 gives 374 (G burns, which is of none), then 28124 (D and H wed).
        DriftKin x = kin("0123H0D1A2");
        due("one act", x.book(4, 1, 2), 0);
        due("two acts", x.book(4, 2, 2), 1);
    }

    @Says(of = 24, value = "by x left over by 8, of PIECE x by 8 (cut) left over by 10, HOUSE x by 8 (cut) left over by 8, HOUSE x by 64 (cut) left over by 8")
    static void theLastPieceAndTheLastHouse() {
        for (int seed = 0; seed < 10000; seed++) {
            int draw = (75 * seed + 74) % 65537;
            boolean last = draw % 8 == 2 && draw / 8 % 10 == 9 && draw / 64 % 8 == 7;
            if (!last) continue;
            due("H takes piece 9 by " + seed, kin("9").book(seed, 1, 0), 1);
            due("no other does by " + seed, kin("012345678").book(seed, 1, 0), 0);
        }
    }

    @Says(of = 24, value = "0, 1 the PIECE comes ASHORE")
    static void drawsNoughtAndOneComeAshore() {
        // Each of these seeds draws one piece ashore (by 0, 0, 1, 1), and then a house that takes it (by 2, 3, 2, 3).
        for (int seed : new int[] {282, 834, 781, 397}) {
            DriftKin x = new DriftKin();
            due("one act by " + seed, x.book(seed, 1, 0), 0);
            due("two acts by " + seed, x.book(seed, 2, 0), 1);
        }
        DriftKin x = kin("3B3");
        due("a piece that is not at sea does not come", x.book(282, 2, 0), 1);
    }

    @Says(of = 24, value = "2, 3 the second HOUSE takes it home")
    static void drawsTwoAndThreeTakeHome() {
        // 8 gives 674: by 2, piece 4, E and C. 3 gives 299: by 3, piece 7, F and E.
        due("C takes piece 4", kin("40E0").book(8, 1, 0), 2);
        due("C has one", kin("40C0").book(8, 1, 0), 1);
        due("piece 4 is at sea", kin("0E0").book(8, 1, 0), 1);
        due("E takes piece 7", kin("70F0").book(3, 1, 0), 2);
        due("E has one", kin("70E0").book(3, 1, 0), 1);
        due("piece 7 is at a house", kin("7A7").book(3, 1, 0), 1);
    }

    @Says(of = 24, value = "4 both HOUSES WED")
    static void drawFourWeds() {
        // 174 gives 13124: by 4, A and F; then 1319: by 7, a year.
        DriftKin x = kin("01A0F1");
        due("A and F", x.book(174, 1, 2), 1);
        due("children of both", x.book(174, 2, 1), 2);
        due("A and B do not", kin("01A0B1").book(174, 1, 2), 0);
        due("who is wed does not", kin("012A0F1B2A+B").book(174, 1, 2), 0);
    }

    @Says(of = 24, value = "5 the first is parted")
    static void drawFiveParts() {
        // 25 gives 1949: by 5, D and G; then 15175: by 7, a year.
        due("D is parted", kin("01D0A1A+D").book(25, 2, 1), 0);
        due("G is not", kin("01G0A1A+G").book(25, 2, 1), 2);
    }

    @Says(of = 24, value = "6 the first burns its PIECE")
    static void drawSixBurns() {
        // 4 gives 374: by 6, G and F.
        due("G burns", kin("01G0F1").book(4, 1, 0), 1);
        due("F does not", kin("1F1").book(4, 1, 0), 1);
        due("G alone burns", kin("0G0").book(4, 1, 0), 0);
        due("the wed have children still", kin("01G0F1F+G.").book(4, 1, 1), 2);
    }

    @Says(of = 24, value = "7 a year; each if that can be")
    static void drawSevenIsAYear() {
        // 7 gives 599: by 7.
        due("two have one more", kin("012A0B1C2A+B.").book(7, 1, 1), 4);
        due("none is wed", kin("012A0B1C2").book(7, 1, 1), 0);
    }

    @Says(of = 24, value = "HOUSES that are of a PIECE; CHILDREN of all together")
    static void housesOfNoneAndAll() {
        due("none", new DriftKin().book(0, 1, 0), 0);
        due("all eight", kin("01234567A0B1C2D3E4F5G6H7").book(0, 1, 0), 8);
        due("who is burnt out is of none", kin("01A0B1A*").book(0, 1, 0), 1);
        due("the last alone", kin("3H3").book(0, 1, 0), 1);
    }

    @Says(of = 24, value = "x becomes (75 x and 74) left over by 65537")
    static void drawsGoRound() {
        for (int seed = 0; seed < 10000; seed += 37) booked("", seed, 60);
        for (int seed = 9999; seed > 0; seed -= 41) booked("01234567A0B1C2D3E4F5G6H7", seed, 60);
    }

    @Says(of = 24, value = "of m ACTS (1 to 99)")
    static void oneActAndNinetyNine() {
        for (int seed = 0; seed < 10000; seed += 101) {
            booked("01234567A0B1C2D3E4F5G6H7A+BC+D.", seed, 1);
            booked("01234567A0B1C2D3E4F5G6H7A+BC+D.", seed, 99);
        }
    }

    @Says(of = 24, value = "each if that can be")
    static void whatCanNotBeIsPassedOver() {
        DriftKin x = new DriftKin();
        x.piece(0, 1, 0, 1);
        did(x, "0123H0D1A2");
        due("of one wreck", x.book(4, 2, 2), 0);
        due("what comes behind it is done", x.book(4, 3, 0), 2);
    }

    @Says(of = 24, value = "6 it is year 99 (.)")
    static void noHundredthYearInABook() {
        DriftKin x = kin("0123H0D1A2D+H");
        did(x, ".".repeat(49));
        did(x, ".".repeat(49));
        due("98 years", x.told(1), 98);
        due("its one year", x.book(4, 4, 1), 198);
        due("no second one", x.book(4, 99, 1), 198);
        // 15 gives 1199 (a year), then 24462 (B burns).
        x = kin("01B0C1");
        did(x, ".".repeat(60));
        did(x, ".".repeat(39));
        due("a year that can not be", x.book(15, 1, 0), 2);
        due("what comes behind it is done", x.book(15, 2, 0), 1);
    }

    @Says(of = 24, value = "CHILDREN of all together")
    static void childrenFromBeforeCount() {
        DriftKin x = kin("01A0B1A+B...A-A*");
        due("three and three", x.book(0, 1, 1), 6);
    }

    @Says(of = 24, value = "weddings in it")
    static void weddingsFromBeforeDoNotCount() {
        DriftKin x = kin("01A0B1A+B");
        due("none", x.book(0, 1, 2), 0);
        x = kin("012H0D1");
        say(x, "D+H");
        due("those on the pad do not", x.book(0, 1, 2), 0);
        due("D and H are free for one in it", x.book(4, 2, 2), 1);
    }

    @Says(of = 24, value = "from all as it is")
    static void aBookDoesNotStandOnThePad() {
        DriftKin x = kin("01A0B1");
        say(x, "A*B*");
        due("two houses", x.book(0, 1, 0), 2);
        x.say('x');
        due("a fault is nothing to it", x.book(0, 1, 0), 2);
    }

    @Says(of = 24, value = "Nothing is DONE in fact.")
    static void nothingOfABookIsDoneInFact() {
        DriftKin x = fullOfThings();
        long[] before = state(x);
        for (int seed = 0; seed < 100; seed++) x.book(97 * seed, 99, seed % 3);
        same("book", x, before);
        due("twice the same", x.book(4242, 99, 1), x.book(4242, 99, 1));
    }

    // ---- images

    @Says(of = 25, value = "All but the PAD is kept in an IMAGE (0, 1): 1. OUTSIDE.")
    static void imagesThatAreNot() {
        DriftKin x = new DriftKin();
        for (int n : new int[] {LOW, -1, 2, HIGH}) due("image " + n, x.image(n), OUTSIDE);
        due("image 0", x.image(0), 1);
        due("image 1", x.image(1), 1);
        due("image 1 again", x.image(1), 1);
    }

    @Says(of = 26, value = "OUTSIDE; STATE: it was not.")
    static void restoreOfNoSuchImage() {
        DriftKin x = new DriftKin();
        x.image(0);
        x.image(1);
        for (int n : new int[] {LOW, -1, 2, HIGH}) due("restore " + n, x.restore(n), OUTSIDE);
        due("restore 0", x.restore(0), 1);
        due("restore 1", x.restore(1), 1);
    }

    @Says(of = 26, value = "STATE: it was not.")
    static void restoreOfWhatWasNotKept() {
        DriftKin x = new DriftKin();
        due("image 0", x.restore(0), STATE);
        due("image 1", x.restore(1), STATE);
        x.image(1);
        due("image 0, the other is kept", x.restore(0), STATE);
        due("image 1", x.restore(1), 1);
        x = new DriftKin();
        x.image(0);
        due("image 1, the other is kept", x.restore(1), STATE);
        due("image 0", x.restore(0), 1);
    }

    @Says(of = {25, 26}, value = "It is as it was when it was kept: 1.")
    static void allIsAsItWas() {
        DriftKin x = fullOfThings();
        x.wipe();
        x.image(0);
        long[] before = state(x);
        for (int p = 0; p < 10; p++) {
            x.piece(p, p, (p + 1) % 4, 20);
            x.ends(p, 9 - p, p);
            x.rings(p, 77);
        }
        did(x, "A-A*C*56789D5E6F7G8H9D+E.");
        x.forget();
        x.heard(0, 0, false);
        x.heard(1, 1, true);
        x.heard(2, 2, true);
        due("restore", x.restore(0), 1);
        same("as it was", x, before);
    }

    @Says(of = {25, 26}, value = "It is as it was when it was kept: 1.")
    static void aNewObjectIsAsItWas() {
        DriftKin x = new DriftKin();
        x.image(1);
        long[] before = state(x);
        x.piece(3, 1, 1, 4);
        x.heard(0, 0, false);
        did(x, "01A0B1A+B.B*");
        due("restore", x.restore(1), 1);
        same("as it was", x, before);
    }

    @Says(of = {25, 26}, value = "All but the PAD is kept in an IMAGE")
    static void thePadStays() {
        DriftKin x = pad("0.");
        x.image(0);
        x.wipe();
        say(x, "1A1.");
        due("restore", x.restore(0), 1);
        due("signs", x.told(0), 4);
        due("the acts that were said", x.done(), 3);
        due("piece 1 is at home", x.told(25), 2);
        due("piece 0 is at sea", x.told(15), 0);
        due("restore on an empty pad", x.restore(0), 1);
        due("no sign comes", x.told(0), 0);
    }

    @Says(of = {25, 26}, value = "All but the PAD is kept in an IMAGE (0, 1)")
    static void twoImagesAreTwo() {
        DriftKin x = new DriftKin();
        x.piece(0, 0, 0, 5);
        x.image(0);
        x.piece(0, 0, 0, 6);
        x.image(1);
        x.piece(0, 0, 0, 7);
        x.restore(0);
        due("the first", x.told(12), 5);
        x.restore(1);
        due("the second", x.told(12), 6);
        x.restore(0);
        due("the first again", x.told(12), 5);
    }

    @Says(of = {25, 26}, value = "It is as it was when it was kept")
    static void anImageKeptAgainIsTheLaterOne() {
        DriftKin x = new DriftKin();
        x.image(0);
        did(x, ".");
        x.image(0);
        did(x, ".");
        x.restore(0);
        due("year", x.told(1), 1);
        did(x, "..");
        x.restore(0);
        due("what comes behind leaves it alone", x.told(1), 1);
    }

    // ---- told

    @Says(of = 27, value = "0 signs, 1 the year, 2 SIGHTS")
    static void toldOfTheFirstThree() {
        DriftKin x = kin("...");
        x.heard(0, 0, true);
        x.heard(0, 0, true);
        x.say('A');
        due("signs", x.told(0), 1);
        due("year", x.told(1), 3);
        due("sights", x.told(2), 2);
    }

    @Says(of = 27, value = "200 and 10 times a HOUSE and 0 its PIECE (NONE), 1 WED (NONE), 2 CHILDREN. OUTSIDE.")
    static void toldOfNothing() {
        int answered = 0;
        for (int what = -300; what <= 500; what++) {
            boolean first = what >= 0 && what <= 2;
            boolean piece = what >= 10 && what <= 106 && what % 10 <= 6;
            boolean house = what >= 200 && what <= 272 && what % 10 <= 2;
            boolean outside = new DriftKin().told(what) == OUTSIDE;
            due("told " + what + " outside", outside ? 1 : 0, first || piece || house ? 0 : 1);
            if (!outside) answered++;
        }
        due("what is told", answered, 3 + 70 + 24);
        for (int what : new int[] {LOW, LOW + 10, HIGH, HIGH - 7}) due("told " + what, new DriftKin().told(what), OUTSIDE);
    }

    @Says(of = 27, value = "10 times (1 and a PIECE) and 0 WRECK, 1 WOOD, 2 LONG, 3 LEFT END, 4 RIGHT END, 5 where it is, 6 RINGS")
    static void toldOfTheFirstAndTheLastPiece() {
        DriftKin x = new DriftKin();
        x.piece(0, 9, 3, 20);
        x.ends(0, 8, 7);
        x.rings(0, 99999999);
        x.piece(9, 0, 1, 2);
        x.ends(9, 3, 4);
        x.rings(9, 5);
        did(x, "0A0A*9");
        int[] first = {9, 3, 20, 8, 7, 3, 99999999};
        int[] last = {0, 1, 2, 3, 4, 1, 5};
        for (int what = 0; what <= 6; what++) due("told " + (10 + what), x.told(10 + what), first[what]);
        for (int what = 0; what <= 6; what++) due("told " + (100 + what), x.told(100 + what), last[what]);
    }

    @Says(of = 27, value = "200 and 10 times a HOUSE and 0 its PIECE (NONE), 1 WED (NONE), 2 CHILDREN")
    static void toldOfTheFirstAndTheLastHouse() {
        DriftKin x = kin("09A0H9A+H..");
        int[] first = {0, 7, 2};
        int[] last = {9, 0, 2};
        for (int what = 0; what <= 2; what++) due("told " + (200 + what), x.told(200 + what), first[what]);
        for (int what = 0; what <= 2; what++) due("told " + (270 + what), x.told(270 + what), last[what]);
        did(x, "A-A*");
        due("of none", x.told(200), NONE);
        due("wed to none", x.told(201), NONE);
        due("the last is wed to none", x.told(271), NONE);
        due("children stay", x.told(202), 2);
    }
}
