/** Pieces, houses, and what they are at first. */
final class PieceEdges extends Edges {
    @Says(of = 1, value = "All PIECES are at SEA")
    static void allPiecesAreAtSeaAtFirst() {
        DriftKin x = new DriftKin();
        for (int p = 0; p < 10; p++) due("told of " + p, x.told(10 * (1 + p) + 5), 0);
        for (int p = 0; p < 10; p++) due("where of " + p, x.where(p), 0);
    }

    @Says(of = 1, value = "HOUSES are of none.")
    static void housesAreOfNoneAtFirst() {
        DriftKin x = new DriftKin();
        for (int h = 0; h < 8; h++) due("told of " + h, x.told(200 + 10 * h), NONE);
        for (int h = 0; h < 8; h++) due("behind of " + h, x.behind(h, 0), NONE);
    }

    @Says(of = {1, 27}, value = "each is of a WRECK (0 to 9; its own number at first)")
    static void wreckIsItsOwnNumberAtFirst() {
        DriftKin x = new DriftKin();
        for (int p = 0; p < 10; p++) due("wreck of " + p, x.told(10 * (1 + p)), p);
    }

    @Says(of = {1, 27}, value = "of some WOOD (0 to 3; 0 at first)")
    static void woodIsNoughtAtFirst() {
        DriftKin x = new DriftKin();
        for (int p = 0; p < 10; p++) due("wood of " + p, x.told(10 * (1 + p) + 1), 0);
    }

    @Says(of = {1, 2, 27}, value = "LONG by 1 to 20 (1 at first)")
    static void lengthIsOneAtFirst() {
        DriftKin x = new DriftKin();
        for (int p = 0; p < 10; p++) due("length of " + p, x.told(10 * (1 + p) + 2), 1);
        for (int p = 0; p < 10; p++) due("it was", x.piece(p, 0, 0, 5), 1);
    }

    @Says(of = {1, 3, 27}, value = "its LEFT and its RIGHT END are 0 to 9 (0 at first)")
    static void endsAreNoughtAtFirst() {
        DriftKin x = new DriftKin();
        for (int p = 0; p < 10; p++) due("ends of " + p, 10 * x.told(10 * (1 + p) + 3) + x.told(10 * (1 + p) + 4), 0);
        for (int p = 0; p < 10; p++) due("they were", x.ends(p, 5, 5), 0);
    }

    @Says(of = {1, 4, 27}, value = "00000000 at first")
    static void ringsAreNoughtAtFirst() {
        DriftKin x = new DriftKin();
        for (int p = 0; p < 10; p++) due("rings of " + p, x.told(10 * (1 + p) + 6), 0);
        for (int p = 0; p < 10; p++) due("it had", x.rings(p, 5), 0);
    }

    @Says(of = {1, 27}, value = "WED to another one, or to none (at first)")
    static void housesAreWedToNoneAtFirst() {
        DriftKin x = new DriftKin();
        for (int h = 0; h < 8; h++) due("told of " + h, x.told(201 + 10 * h), NONE);
        for (int h = 0; h < 8; h++) due("behind of " + h, x.behind(h, 1), NONE);
    }

    @Says(of = {1, 27}, value = "has CHILDREN (0 to 99; 0 at first)")
    static void housesHaveNoChildrenAtFirst() {
        DriftKin x = new DriftKin();
        for (int h = 0; h < 8; h++) due("told of " + h, x.told(202 + 10 * h), 0);
        for (int h = 0; h < 8; h++) due("behind of " + h, x.behind(h, 2), 0);
    }

    @Says(of = {1, 27}, value = "It is year 0 at first.")
    static void yearIsNoughtAtFirst() {
        due("told", new DriftKin().told(1), 0);
        due("then", new DriftKin().then(2), 0);
    }

    @Says(of = 1, value = "`DriftKin()`: All PIECES are at SEA; HOUSES are of none.")
    static void nothingElseIsThereAtFirst() {
        DriftKin x = new DriftKin();
        due("signs", x.told(0), 0);
        due("sights", x.told(2), 0);
        due("image 0", x.restore(0), STATE);
        due("image 1", x.restore(1), STATE);
    }

    @Says(of = 1, value = "How the state is held inside the object is free")
    static void objectsShareNothing() {
        DriftKin x = fullOfThings();
        DriftKin y = new DriftKin();
        same("a new one beside it", y, state(new DriftKin()));
        y.piece(0, 5, 3, 20);
        did(y, "0.");
        same("the old one", x, state(fullOfThings()));
    }

    @Says(of = 1, value = "An object is used for at most 512 calls after it has been made")
    static void theLastOf512CallsStillAnswers() {
        DriftKin x = new DriftKin();
        for (int i = 1; i <= 510; i++) x.piece(i % 10, i % 10, i % 4, i % 20 + 1);
        due("call 511: longest, of wood 2: 0, 2 and 6", x.longest(0), 11 + 3 + 7);
        due("call 512: how long it was", x.piece(0, 0, 0, 1), 510 % 20 + 1);
    }

    @Says(of = 2, value = "PIECES 0 to 9")
    static void pieceOfNoSuchPiece() {
        DriftKin x = new DriftKin();
        for (int p : new int[] {LOW, -1, 10, 11, HIGH}) due("piece " + p, x.piece(p, 0, 0, 1), UNKNOWN);
        due("piece 0", x.piece(0, 0, 0, 2), 1);
        due("piece 9", x.piece(9, 0, 0, 2), 1);
    }

    @Says(of = 2, value = "each is of a WRECK (0 to 9; its own number at first)")
    static void pieceOfAWreckThatIsNot() {
        DriftKin x = new DriftKin();
        for (int w : new int[] {LOW, -1, 10, HIGH}) due("wreck " + w, x.piece(4, w, 0, 1), OUTSIDE);
        due("wreck 0", x.piece(4, 0, 0, 1), 1);
        due("wreck 0 told", x.told(50), 0);
        due("wreck 9", x.piece(4, 9, 0, 1), 1);
        due("wreck 9 told", x.told(50), 9);
    }

    @Says(of = 2, value = "of some WOOD (0 to 3; 0 at first)")
    static void pieceOfAWoodThatIsNot() {
        DriftKin x = new DriftKin();
        for (int w : new int[] {LOW, -1, 4, HIGH}) due("wood " + w, x.piece(4, 0, w, 1), OUTSIDE);
        due("wood 3", x.piece(4, 0, 3, 1), 1);
        due("wood 3 told", x.told(51), 3);
        due("wood 0", x.piece(4, 0, 0, 1), 1);
        due("wood 0 told", x.told(51), 0);
    }

    @Says(of = 2, value = "LONG by 1 to 20 (1 at first)")
    static void pieceTooShortOrTooLong() {
        DriftKin x = new DriftKin();
        for (int l : new int[] {LOW, -1, 0, 21, HIGH}) due("length " + l, x.piece(4, 0, 0, l), OUTSIDE);
        due("length 20", x.piece(4, 0, 0, 20), 1);
        due("length 20 told", x.told(52), 20);
        due("length 1", x.piece(4, 0, 0, 1), 20);
        due("length 1 told", x.told(52), 1);
    }

    @Says(of = 2, value = "Of which WRECK, WOOD, how LONG a PIECE is: how LONG it was.")
    static void pieceAnswersHowLongItWas() {
        DriftKin x = new DriftKin();
        due("first", x.piece(7, 1, 2, 15), 1);
        due("again so long", x.piece(7, 1, 2, 15), 15);
        due("shorter", x.piece(7, 1, 2, 3), 15);
        due("another piece is left alone", x.told(92), 1);
        due("wreck and wood", 10 * x.told(80) + x.told(81), 12);
    }

    @Says(of = {2, 3, 4}, value = "It is at SEA (0; at first), ASHORE (1), at a HOUSE (2), or BURNT (3).")
    static void aPieceIsToldWhereverItIs() {
        DriftKin x = kin("123A2B3B*");
        for (int p = 0; p < 4; p++) {
            due("piece " + p, x.piece(p, 0, 1, 9), 1);
            due("ends " + p, x.ends(p, 1, 2), 0);
            due("rings " + p, x.rings(p, 3), 0);
            due("it stays where it is", x.told(10 * (1 + p) + 5), p);
        }
    }

    @Says(of = 2, value = "5 their PIECES are of one WRECK (WEDDING)")
    static void whoIsWedStaysWedWhenTheWreckIsTold() {
        DriftKin x = kin("01A0B1A+B");
        x.piece(1, 0, 0, 1);
        due("still wed", x.told(201), 1);
        judged(x, ".A-", NONE, NONE);
        judged(x, "A-A+B", 1, 5);
    }

    @Says(of = 3, value = "PIECES 0 to 9")
    static void endsOfNoSuchPiece() {
        DriftKin x = new DriftKin();
        for (int p : new int[] {LOW, -1, 10, 11, HIGH}) due("ends of " + p, x.ends(p, 0, 0), UNKNOWN);
        due("ends of 0", x.ends(0, 1, 2), 0);
        due("ends of 9", x.ends(9, 1, 2), 0);
        due("both told", 1000 * x.told(13) + 100 * x.told(14) + 10 * x.told(103) + x.told(104), 1212);
    }

    @Says(of = 3, value = "its LEFT and its RIGHT END are 0 to 9")
    static void leftEndThatIsNot() {
        DriftKin x = new DriftKin();
        for (int e : new int[] {LOW, -1, 10, HIGH}) due("left " + e, x.ends(4, e, 0), OUTSIDE);
        due("left 9", x.ends(4, 9, 0), 0);
        due("left 0", x.ends(4, 0, 0), 90);
    }

    @Says(of = 3, value = "its LEFT and its RIGHT END are 0 to 9")
    static void rightEndThatIsNot() {
        DriftKin x = new DriftKin();
        for (int e : new int[] {LOW, -1, 10, HIGH}) due("right " + e, x.ends(4, 0, e), OUTSIDE);
        due("right 9", x.ends(4, 0, 9), 0);
        due("right 0", x.ends(4, 0, 0), 9);
    }

    @Says(of = 3, value = "10 times the one and the other, as they were.")
    static void endsAnswerAsTheyWere() {
        DriftKin x = new DriftKin();
        x.ends(0, 9, 9);
        due("99", x.ends(0, 3, 7), 99);
        due("37", x.ends(0, 0, 7), 37);
        due("7", x.ends(0, 3, 0), 7);
        due("30", x.ends(0, 3, 0), 30);
        due("another piece is left alone", x.told(23) + x.told(24), 0);
    }

    @Says(of = 4, value = "PIECES 0 to 9")
    static void ringsOfNoSuchPiece() {
        DriftKin x = new DriftKin();
        for (int p : new int[] {LOW, -1, 10, 11, HIGH}) due("rings of " + p, x.rings(p, 0), UNKNOWN);
        due("rings of 0", x.rings(0, 5), 0);
        due("rings of 9", x.rings(9, 6), 0);
        due("both told", 10 * x.told(16) + x.told(106), 56);
    }

    @Says(of = 4, value = "Its RINGS (0 to 99999999)")
    static void ringsTooSmallOrTooLarge() {
        DriftKin x = new DriftKin();
        for (int r : new int[] {LOW, -1, 100000000, HIGH}) due("row " + r, x.rings(4, r), OUTSIDE);
        due("row 99999999", x.rings(4, 99999999), 0);
        due("row 0", x.rings(4, 0), 99999999);
        due("row 0 again", x.rings(4, 0), 0);
    }

    @Says(of = 4, value = "which it had.")
    static void ringsAnswerWhichItHad() {
        DriftKin x = new DriftKin();
        x.rings(2, 10000000);
        due("the highest digit alone", x.rings(2, 1), 10000000);
        due("the lowest digit alone", x.rings(2, 1), 1);
        due("another piece is left alone", x.told(26), 0);
    }

    @Says(of = 4, value = "a row of eight digits (digit 0 the first as it is written, the highest; 00000000 at first)")
    static void digitNoughtIsTheHighest() {
        DriftKin x = new DriftKin();
        x.rings(0, 12340000);
        x.rings(1, 56781234);
        due("digits 0 to 3 beside digits 4 to 7", x.same(0, 1, -4), 4);
        x.rings(2, 1234);
        x.rings(3, 12345678);
        due("noughts lead a small row: digits 4 to 7 beside digits 0 to 3", x.same(2, 3, 4), 4);
    }
}
