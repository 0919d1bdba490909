/** Planks, rings and matches. */
final class PlankEdges extends Edges {
    private static final String JOINS =
        "One PIECE JOINS another one behind it, if both are of one WOOD, and the RIGHT END of the one is as the LEFT END of the other.";
    private static final String BUT_BURNT = "As things are now, wherever the PIECES are, but BURNT.";

    /** Pieces none of which joins another one. */
    private static DriftKin apart() {
        DriftKin x = new DriftKin();
        for (int p = 0; p < 10; p++) x.ends(p, 9, 0);
        return x;
    }

    /** These pieces come in from the sea and are burnt by A. */
    private static void burn(DriftKin x, String pieces) {
        for (int i = 0; i < pieces.length(); i++) {
            char p = pieces.charAt(i);
            did(x, p + "A" + p + "A*");
        }
    }

    @Says(of = 13, value = "how much (what = 0), which (1). OUTSIDE.")
    static void longestOfAnotherThing() {
        DriftKin x = new DriftKin();
        for (int what : new int[] {LOW, -1, 2, HIGH}) due("longest " + what, x.longest(what), OUTSIDE);
    }

    @Says(of = {13, 14}, value = "(one PIECE is one, too)")
    static void onePieceIsAPlank() {
        DriftKin x = apart();
        x.piece(6, 6, 0, 17);
        due("how much", x.longest(0), 17);
        due("which", x.longest(1), 64);
        due("deck", x.deck(), 10);
        burn(x, "012345789");
        due("the only one", x.longest(1), 64);
        due("one plank", x.deck(), 1);
        x = apart();
        burn(x, "123456789");
        due("the first one, asked for at once", x.deck(), 1);
        due("how much", x.longest(0), 1);
    }

    @Says(of = {13, 14}, value = "A PLANK is a row of PIECES, each once")
    static void aPieceIsLaidOnce() {
        DriftKin x = apart();
        x.piece(3, 3, 0, 7);
        x.ends(3, 8, 8);
        due("it would join itself", x.longest(0), 7);
        x.ends(4, 8, 8);
        due("two that join round and round", x.longest(0), 8);
        due("which", x.longest(1), 8 + 16);
    }

    @Says(of = {13, 14}, value = JOINS)
    static void bothOfOneWood() {
        DriftKin x = apart();
        x.ends(0, 9, 5);
        x.ends(1, 5, 8);
        due("joined", x.longest(1), 3);
        due("nine planks", x.deck(), 9);
        x.piece(1, 1, 1, 1);
        due("of two woods", x.longest(0), 1);
        due("ten planks", x.deck(), 10);
        x.piece(0, 0, 1, 1);
        due("of another one wood", x.longest(1), 3);
    }

    @Says(of = {13, 14}, value = JOINS)
    static void theRightEndAsTheLeftEnd() {
        DriftKin x = apart();
        x.ends(0, 5, 6);
        x.ends(1, 5, 7);
        due("left as left", x.longest(0), 1);
        x.ends(1, 8, 6);
        due("right as right", x.longest(0), 1);
        x.ends(1, 6, 8);
        due("right as left", x.longest(1), 3);
        x.ends(1, 8, 5);
        due("the other way round", x.longest(1), 3);
    }

    @Says(of = {13, 14}, value = "each of which JOINS the next one")
    static void oneBehindAllOthersJoinsOneAlone() {
        DriftKin x = new DriftKin();
        for (int p = 0; p < 10; p++) x.ends(p, 3, p == 0 ? 3 : 4);
        x.ends(0, 9, 3);
        due("two at most", x.longest(0), 2);
        due("nine planks", x.deck(), 9);
    }

    @Says(of = 13, value = "LONGEST: the PLANK that is LONG most, all its PIECES added: how much")
    static void longMostIsNotOfMostPieces() {
        DriftKin x = apart();
        x.ends(0, 9, 5);
        x.ends(1, 5, 6);
        x.ends(2, 6, 8);
        x.piece(8, 8, 0, 4);
        due("one of four", x.longest(0), 4);
        due("which", x.longest(1), 256);
        x.piece(0, 0, 0, 3);
        due("three of five", x.longest(0), 5);
        due("which", x.longest(1), 7);
    }

    @Says(of = 13, value = "least as bits of as much")
    static void leastBitsOfAsMuch() {
        DriftKin x = apart();
        due("one of ten", x.longest(1), 1);
        x.ends(0, 9, 8);
        x.ends(8, 8, 8);
        x.piece(9, 9, 0, 2);
        due("two pieces are less than a later one", x.longest(1), 257);
        x.piece(7, 7, 0, 2);
        due("one that is earlier is less than two", x.longest(1), 128);
        due("how much", x.longest(0), 2);
    }

    @Says(of = 13, value = "(0: all are BURNT)")
    static void longestOfNone() {
        DriftKin x = new DriftKin();
        due("all ten", x.longest(1), 1023);
        burn(x, "012345678");
        due("one is left", x.longest(1), 512);
        burn(x, "9");
        due("how much", x.longest(0), 0);
        due("which", x.longest(1), 0);
    }

    @Says(of = 13, value = "the PLANK that is LONG most, all its PIECES added")
    static void allTenOfTwenty() {
        DriftKin x = new DriftKin();
        for (int p = 0; p < 10; p++) x.piece(p, p, 2, 20);
        for (int p = 0; p < 10; p++) x.ends(p, p, (p + 3) % 10);
        due("a ring of ten", x.longest(0), 200);
        due("which", x.longest(1), 1023);
        due("one plank", x.deck(), 1);
    }

    @Says(of = {13, 14}, value = BUT_BURNT)
    static void whereverThePiecesAre() {
        DriftKin x = new DriftKin();
        for (int p = 0; p < 10; p++) x.ends(p, p, p + 1 > 9 ? 9 : p + 1);
        did(x, "123A2B3");
        due("at sea, ashore, at houses", x.longest(1), 1023);
        due("one plank", x.deck(), 1);
        say(x, "B*");
        due("not what is on the pad", x.longest(1), 1023);
        x.done();
        due("a burnt one parts them", x.longest(1), 1023 - 15);
        due("two planks", x.deck(), 2);
    }

    @Says(of = {13, 14}, value = BUT_BURNT)
    static void asThingsAreBehindAnImage() {
        DriftKin x = new DriftKin();
        x.image(0);
        burn(x, "0");
        due("nine", x.longest(0), 9);
        x.restore(0);
        due("ten again", x.longest(0), 10);
        x.piece(4, 4, 1, 1);
        due("of another wood", x.deck(), 2);
        x.restore(0);
        due("of one wood again", x.deck(), 1);
    }

    @Says(of = 14, value = "DECK: the fewest PLANKS that have all PIECES that are not BURNT, each once.")
    static void deckOfNoneAndAll() {
        DriftKin x = apart();
        due("each alone", x.deck(), 10);
        burn(x, "012345678");
        due("one", x.deck(), 1);
        burn(x, "9");
        due("none", x.deck(), 0);
        due("all in one", new DriftKin().deck(), 1);
    }

    @Says(of = 14, value = "the fewest PLANKS that have all PIECES that are not BURNT, each once")
    static void planksThatCross() {
        // 0 and 3 stand ahead of 1, 2 and 4 behind it: 0 1 2 leaves 3 and 4 alone.
        DriftKin x = apart();
        burn(x, "56789");
        x.ends(0, 9, 5);
        x.ends(3, 9, 5);
        x.ends(1, 5, 6);
        x.ends(2, 6, 8);
        x.ends(4, 6, 8);
        due("three planks", x.deck(), 3);
        // A second one like 1, which is 5, lets 3 and 4 be laid about it.
        x = apart();
        burn(x, "6789");
        x.ends(0, 9, 5);
        x.ends(3, 9, 5);
        x.ends(1, 5, 6);
        x.ends(5, 5, 6);
        x.ends(2, 6, 8);
        x.ends(4, 6, 8);
        due("two planks", x.deck(), 2);
    }

    @Says(of = 14, value = "the fewest PLANKS that have all PIECES that are not BURNT, each once")
    static void ringsOfPiecesAreCut() {
        DriftKin x = apart();
        burn(x, "6789");
        x.ends(0, 1, 2);
        x.ends(1, 2, 1);
        x.ends(2, 3, 4);
        x.ends(3, 4, 3);
        x.ends(4, 5, 5);
        x.ends(5, 6, 7);
        due("two rings of two, one of one, and one alone", x.deck(), 4);
        x.ends(1, 2, 8);
        x.ends(5, 2, 1);
        due("a ring of 0 and 5, of which 5 leads to 0 and 0 to 1", x.longest(1), 1 + 2 + 32);
        due("the ring of 2 and 3, the one of 4, and those", x.deck(), 3);
        x.ends(1, 2, 1);
        x.ends(5, 1, 3);
        due("one that leads from ring to ring", x.deck(), 2);
        due("all five of them", x.longest(1), 32 + 15);
    }

    @Says(of = 15, value = "how many digits are the same (s -5 to 5)")
    static void movedTooFar() {
        DriftKin x = new DriftKin();
        for (int s : new int[] {LOW, -6, 6, HIGH}) due("same s " + s, x.same(0, 1, s), OUTSIDE);
        due("s -5", x.same(0, 1, -5), 3);
        due("s 5", x.same(0, 1, 5), 3);
    }

    @Says(of = 15, value = "UNKNOWN: both; OUTSIDE.")
    static void sameOfNoSuchPiece() {
        DriftKin x = new DriftKin();
        for (int p : new int[] {LOW, -1, 10, HIGH}) {
            due("one " + p, x.same(p, 0, 0), UNKNOWN);
            due("other " + p, x.same(0, p, 0), UNKNOWN);
            due("both " + p, x.same(p, p, 0), UNKNOWN);
        }
        due("the first and the last", x.same(0, 9, 0), 8);
    }

    @Says(of = 15, value = "digit i of the first lies beside digit i less s of the second, where there is one")
    static void nothingLiesBesideWhatIsPastTheEnd() {
        DriftKin x = new DriftKin();
        for (int s = -5; s <= 5; s++) due("all noughts by " + s, x.same(0, 1, s), 8 - Math.abs(s));
        x.rings(0, 90000000);
        x.rings(1, 9);
        due("no wrap-around to the right", x.same(0, 1, 1), 7);
        due("no wrap-around to the left", x.same(1, 0, -1), 7);
        due("side by side", x.same(0, 1, 0), 6);
    }

    @Says(of = 15, value = "the second one's moved on by s (-5 to 5; digit i of the first lies beside digit i less s of the second")
    static void movedOnOneWayIsNotTheOther() {
        DriftKin x = new DriftKin();
        x.rings(0, 12345678);
        x.rings(1, 67899999);
        due("by 5", x.same(0, 1, 5), 3);
        due("by -5", x.same(0, 1, -5), 0);
        due("the other way round", x.same(1, 0, -5), 3);
        x.rings(2, 91111111);
        due("digit 0 is the highest: by 3", x.same(1, 2, 3), 1);
        due("by -3", x.same(1, 2, -3), 0);
        due("by 2", x.same(1, 2, 2), 0);
    }

    @Says(of = {15, 16}, value = "RINGS of two PIECES are laid side by side")
    static void aPieceBesideItself() {
        DriftKin x = new DriftKin();
        x.rings(3, 12345678);
        due("same", x.same(3, 3, 0), 8);
        due("by 1", x.same(3, 3, 1), 0);
        due("most", x.lie(3, 3, 0), 8);
        due("s and 5", x.lie(3, 3, 1), 5);
    }

    @Says(of = 16, value = "UNKNOWN: both; OUTSIDE.")
    static void lieOfNoSuchPiece() {
        DriftKin x = new DriftKin();
        for (int p : new int[] {LOW, -1, 10, HIGH}) {
            due("one " + p, x.lie(p, 0, 0), UNKNOWN);
            due("other " + p, x.lie(0, p, 1), UNKNOWN);
            due("both " + p, x.lie(p, p, 0), UNKNOWN);
        }
        due("the last and the first", x.lie(9, 0, 0), 8);
    }

    @Says(of = 16, value = "RINGS: the most (what = 0), s and 5 (1).")
    static void lieOfAnotherThing() {
        DriftKin x = new DriftKin();
        for (int what : new int[] {LOW, -1, 2, HIGH}) due("lie what " + what, x.lie(0, 1, what), OUTSIDE);
    }

    @Says(of = 16, value = "the least s for it, and 5")
    static void theLeastShiftOfAsMany() {
        DriftKin x = new DriftKin();
        x.rings(0, 11111111);
        x.rings(1, 22222222);
        due("none is the same, most", x.lie(0, 1, 0), 0);
        due("none is the same, the least s is -5", x.lie(0, 1, 1), 0);
        x.rings(1, 22221222);
        due("one at many, most", x.lie(0, 1, 0), 1);
        due("one at many, the least s is -4", x.lie(0, 1, 1), 1);
    }

    @Says(of = 16, value = "the s by which most are: the most; the least s for it, and 5.")
    static void theFarthestShifts() {
        DriftKin x = new DriftKin();
        x.rings(0, 11111789);
        x.rings(1, 78922222);
        due("s 5, most", x.lie(0, 1, 0), 3);
        due("s 5", x.lie(0, 1, 1), 10);
        due("s -5, most", x.lie(1, 0, 0), 3);
        due("s -5", x.lie(1, 0, 1), 0);
        x.rings(2, 11111178);
        due("by 6 it is not moved, most", x.lie(2, 1, 0), 0);
        due("by 6 it is not moved", x.lie(2, 1, 1), 0);
        x.rings(3, 34567899);
        x.rings(4, 12345678);
        due("s -2", x.lie(3, 4, 1), 3);
        due("s 2", x.lie(4, 3, 1), 7);
    }

    @Says(of = {15, 16}, value = "it has RINGS, a row of eight digits")
    static void ringsOfAPieceThatIsBurnt() {
        DriftKin x = kin("0A0A*");
        x.rings(0, 12345678);
        x.rings(1, 34567800);
        due("same", x.same(0, 1, 2), 6);
        due("lie", x.lie(1, 0, 1), 3);
    }

    @Says(of = 17, value = "how many (house = -1), with whom; NONE. UNKNOWN.")
    static void matchOfNoSuchHouse() {
        DriftKin x = kin("01A0H1");
        for (int h : new int[] {LOW, -2, 8, HIGH}) due("match " + h, x.match(h), UNKNOWN);
        due("how many", x.match(-1), 1);
        due("house 0", x.match(0), 7);
        due("house 7", x.match(7), 0);
    }

    @Says(of = 17, value = "HOUSES that are of a PIECE, and not WED, might WED")
    static void whoMightNotWed() {
        due("none of a piece", new DriftKin().match(-1), 0);
        due("none with A", new DriftKin().match(0), NONE);
        due("one alone", kin("0A0").match(-1), 0);
        DriftKin x = kin("012A0B1C2A+B");
        due("two are wed", x.match(-1), 0);
        due("the third has none", x.match(2), NONE);
        due("the wed are not told", x.match(0), NONE);
        did(x, "A-");
        due("parted ones might", x.match(0), 1);
        did(x, "A*");
        due("who is of none might not", x.match(0), NONE);
        due("the others might", x.match(1), 2);
        x = kin("012A0B1C2A+BA*");
        due("who is of none and wed might not", x.match(-1), 0);
    }

    @Says(of = 17, value = "no two of one WRECK")
    static void noTwoOfOneWreck() {
        DriftKin x = kin("01234567A0B1C2D3E4F5G6H7");
        for (int p = 0; p < 8; p++) x.piece(p, 4, 0, 1);
        due("all of one wreck", x.match(-1), 0);
        for (int h = 0; h < 8; h++) due("with house " + h, x.match(h), NONE);
        x.piece(7, 5, 0, 1);
        due("one of another", x.match(-1), 1);
        due("A with H", x.match(0), 7);
        due("B with none", x.match(1), NONE);
    }

    @Says(of = 17, value = "as many twos at once as can be")
    static void allEightAndAnOddNumber() {
        DriftKin x = kin("01234567A0B1C2D3E4F5G6H7");
        due("four of eight", x.match(-1), 4);
        for (int h = 0; h < 8; h++) due("with " + h, x.match(h), h ^ 1);
        did(x, "D*");
        due("three of seven", x.match(-1), 3);
        int[] due = {1, 0, 4, NONE, 2, 6, 5, NONE};
        for (int h = 0; h < 8; h++) due("with " + h + " of seven", x.match(h), due[h]);
    }

    @Says(of = 17, value = "(HOUSE 0 with the least it can, else with none, then HOUSE 1, and so on; NONE)")
    static void theFirstWay() {
        DriftKin x = kin("0123A0B1C2D3");
        x.piece(3, 2, 0, 1);
        due("two twos", x.match(-1), 2);
        due("A not with B, so that C and D are not left", x.match(0), 2);
        due("B with D", x.match(1), 3);
        x.piece(1, 2, 0, 1);
        due("one two", x.match(-1), 1);
        due("A with B", x.match(0), 1);
        due("C with none", x.match(2), NONE);
        due("D with none", x.match(3), NONE);
    }

    @Says(of = 17, value = "(HOUSE 0 with the least it can, else with none, then HOUSE 1, and so on; NONE)")
    static void houseNoughtWithNone() {
        DriftKin x = kin("123B1C2D3");
        due("A is of none", x.match(0), NONE);
        due("B with C", x.match(1), 2);
        due("D with none", x.match(3), NONE);
        x = kin("0123A0B1C2D3A+D");
        due("A is wed", x.match(0), NONE);
        due("B with C", x.match(1), 2);
    }

    @Says(of = {13, 14, 17}, value = "As things are now")
    static void notAsOnThePad() {
        DriftKin x = kin("01A0B1");
        say(x, "A+B");
        due("match", x.match(-1), 1);
        x.wipe();
        say(x, "2C2A*");
        due("match before it is done", x.match(0), 1);
        x.done();
        due("match then", x.match(1), 2);
    }
}
