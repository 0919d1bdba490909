/** Which refusal is answered when more than one fits, and that what is refused changes nothing. */
final class RefusalEdges extends Edges {
    private static final String ORDER = "Calls that are refused answer, the first of these that fits: UNKNOWN -1";

    @Says(of = 1, value = "UNKNOWN -1 (there is no such PIECE, HOUSE), OUTSIDE -2 (another number is not as told), NO -5 (as told), STATE -3 (as told), FULL -4.")
    static void refusalsAreTheseNumbers() {
        DriftKin x = pad("A".repeat(60));
        due("UNKNOWN", x.rings(10, 0), -1);
        due("OUTSIDE", x.rings(0, -1), -2);
        due("STATE", x.restore(0), -3);
        due("FULL", x.say('A'), -4);
        due("NO", x.done(), -5);
        due("NONE", x.match(0), -6);
        due("each by its name", UNKNOWN * 100000L + OUTSIDE * 10000 + STATE * 1000 + FULL * 100 + NO * 10 + NONE, -123456);
    }

    @Says(of = {12, 13, 20}, value = "Sets are bits.")
    static void setsAreBits() {
        due("ashore", pad("095").then(0), 1 + 32 + 512);
        DriftKin x = new DriftKin();
        x.heard(1, 5, false);
        due("houses", x.wheel(), 128);
        x.piece(9, 9, 3, 20);
        due("pieces", x.longest(1), 512);
    }

    @Says(of = 2, value = ORDER)
    static void pieceUnknownAheadOfOutside() {
        DriftKin x = new DriftKin();
        due("wreck", x.piece(10, 10, 0, 1), UNKNOWN);
        due("wood", x.piece(-1, 0, 4, 1), UNKNOWN);
        due("length", x.piece(10, 0, 0, 0), UNKNOWN);
    }

    @Says(of = 3, value = ORDER)
    static void endsUnknownAheadOfOutside() {
        DriftKin x = new DriftKin();
        due("left", x.ends(10, 10, 0), UNKNOWN);
        due("right", x.ends(-1, 0, -1), UNKNOWN);
    }

    @Says(of = 4, value = ORDER)
    static void ringsUnknownAheadOfOutside() {
        due("rings", new DriftKin().rings(10, 100000000), UNKNOWN);
        due("rings", new DriftKin().rings(-1, -1), UNKNOWN);
    }

    @Says(of = 5, value = "OUTSIDE; FULL.")
    static void sayOutsideAheadOfFull() {
        DriftKin x = pad("0".repeat(60));
        due("sign 32", x.say(32), OUTSIDE);
        due("sign 127", x.say(127), OUTSIDE);
        due("sign 33", x.say(33), FULL);
    }

    @Says(of = 8, value = "OUTSIDE; NO: there is a FAULT.")
    static void judgeOutsideAheadOfNo() {
        DriftKin x = pad("A");
        due("what 2", x.judge(2), OUTSIDE);
        due("what -1", x.judge(-1), OUTSIDE);
        due("what 1", x.judge(1), NO);
    }

    @Says(of = 10, value = "UNKNOWN; NO, as of done().")
    static void whereUnknownAheadOfNo() {
        DriftKin x = pad("A");
        due("piece 10", x.where(10), UNKNOWN);
        due("piece -1", x.where(-1), UNKNOWN);
        due("piece 9", x.where(9), NO);
    }

    @Says(of = 11, value = "UNKNOWN; OUTSIDE; NO, likewise.")
    static void behindUnknownAheadOfOutsideAheadOfNo() {
        DriftKin x = pad("A");
        due("both", x.behind(8, 3), UNKNOWN);
        due("house 8", x.behind(8, 0), UNKNOWN);
        due("what 3", x.behind(0, 3), OUTSIDE);
        due("neither", x.behind(0, 2), NO);
        due("without a fault", new DriftKin().behind(-1, -1), UNKNOWN);
    }

    @Says(of = 12, value = "OUTSIDE; NO, likewise.")
    static void thenOutsideAheadOfNo() {
        DriftKin x = pad("A");
        due("what 3", x.then(3), OUTSIDE);
        due("what -1", x.then(-1), OUTSIDE);
        due("what 2", x.then(2), NO);
    }

    @Says(of = 15, value = "UNKNOWN: both; OUTSIDE.")
    static void sameUnknownAheadOfOutside() {
        DriftKin x = new DriftKin();
        due("one", x.same(10, 0, 6), UNKNOWN);
        due("other", x.same(0, 10, -6), UNKNOWN);
    }

    @Says(of = 16, value = "UNKNOWN: both; OUTSIDE.")
    static void lieUnknownAheadOfOutside() {
        DriftKin x = new DriftKin();
        due("one", x.lie(-1, 0, 2), UNKNOWN);
        due("other", x.lie(0, -1, -1), UNKNOWN);
    }

    @Says(of = 18, value = "UNKNOWN; OUTSIDE; FULL.")
    static void heardUnknownAheadOfOutsideAheadOfFull() {
        DriftKin x = new DriftKin();
        due("both", x.heard(8, 8, true), UNKNOWN);
        for (int i = 0; i < 8; i++) x.heard(0, 0, true);
        due("all three", x.heard(-1, -1, true), UNKNOWN);
        due("house 8, full", x.heard(8, 0, true), UNKNOWN);
        due("d 8, full", x.heard(0, 8, true), OUTSIDE);
        due("full", x.heard(0, 0, true), FULL);
    }

    @Says(of = 21, value = "NONE: it can be nowhere. OUTSIDE.")
    static void askOutsideWhenItCanBeNowhere() {
        DriftKin x = new DriftKin();
        x.heard(0, 7, false);
        due("what 2", x.ask(2), OUTSIDE);
        due("what -1", x.ask(-1), OUTSIDE);
        due("what 1", x.ask(1), NONE);
    }

    @Says(of = 22, value = "which (1; NONE). OUTSIDE.")
    static void sawOutsideWhenNothingIsAshore() {
        DriftKin x = new DriftKin();
        due("k 0", x.saw(0, 1), OUTSIDE);
        due("what 2", x.saw(1, 2), OUTSIDE);
        due("what 1", x.saw(1, 1), NONE);
    }

    @Says(of = 26, value = "OUTSIDE; STATE: it was not.")
    static void restoreOutsideIsNotState() {
        DriftKin x = new DriftKin();
        due("image 2", x.restore(2), OUTSIDE);
        due("image 1", x.restore(1), STATE);
    }

    @Says(of = {2, 3, 4}, value = "They change nothing.")
    static void refusedPiecesChangeNothing() {
        DriftKin x = fullOfThings();
        long[] before = state(x);
        x.piece(10, 1, 1, 1);
        x.piece(3, 10, 1, 1);
        x.piece(3, 1, 4, 1);
        x.piece(3, 1, 1, 21);
        x.ends(10, 1, 1);
        x.ends(3, 10, 1);
        x.ends(3, 1, 10);
        x.rings(10, 1);
        x.rings(3, -1);
        same("pieces", x, before);
    }

    @Says(of = 5, value = "They change nothing.")
    static void refusedSignsChangeNothing() {
        DriftKin x = new DriftKin();
        x.say('5');
        x.say(32);
        x.say(127);
        due("one sign is there", x.told(0), 1);
        due("and stands", x.where(5), 1);
        x = pad(".".repeat(60));
        x.say('5');
        x.say('5');
        due("sixty", x.told(0), 60);
        due("the last is a year", x.then(2), 60);
        due("no piece came", x.then(0), 0);
        due("wiped", x.wipe(), 60);
        due("one again", x.say('5'), 1);
    }

    @Says(of = {8, 9, 10, 11, 12}, value = "They change nothing.")
    static void refusedYearsChangeNothing() {
        DriftKin x = fullOfThings();
        say(x, "5A4A4");
        long[] before = state(x);
        due("done", x.done(), NO);
        due("where", x.where(0), NO);
        due("behind", x.behind(0, 0), NO);
        due("then", x.then(0), NO);
        due("judge", x.judge(7), OUTSIDE);
        same("years that can not be", x, before);
        x.say('A');
        before = state(x);
        due("done with a fault", x.done(), NO);
        due("judge with a fault", x.judge(0), NO);
        same("years with a fault", x, before);
    }

    @Says(of = {13, 15, 16, 17, 21, 22, 23, 24}, value = "They change nothing.")
    static void refusedQuestionsChangeNothing() {
        DriftKin x = fullOfThings();
        long[] before = state(x);
        x.longest(2);
        x.same(10, 0, 0);
        x.same(0, 0, 6);
        x.lie(10, 0, 0);
        x.lie(0, 0, 2);
        x.match(8);
        x.ask(2);
        x.saw(0, 0);
        x.soon(11, 0, 0, 0);
        x.book(-1, 1, 0);
        x.book(0, 100, 0);
        x.told(3);
        same("questions", x, before);
    }

    @Says(of = 18, value = "They change nothing.")
    static void refusedSightsChangeNothing() {
        DriftKin x = new DriftKin();
        x.heard(0, 3, true);
        x.heard(8, 0, false);
        x.heard(0, 8, false);
        due("one sight", x.told(2), 1);
        due("wheel", x.wheel(), 15);
        for (int i = 2; i <= 8; i++) x.heard(0, 3, true);
        due("the ninth", x.heard(0, 7, false), FULL);
        due("eight sights", x.told(2), 8);
        due("wheel of eight", x.wheel(), 15);
    }

    @Says(of = {25, 26}, value = "They change nothing.")
    static void refusedImagesChangeNothing() {
        DriftKin x = new DriftKin();
        x.piece(0, 0, 0, 7);
        x.image(0);
        x.piece(0, 0, 0, 9);
        x.image(2);
        x.image(-1);
        x.restore(1);
        x.restore(2);
        due("as it was", x.told(12), 9);
        due("the other one is not kept", x.restore(1), STATE);
        x.restore(0);
        due("the image is as it was", x.told(12), 7);
    }
}
