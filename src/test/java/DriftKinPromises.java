/** Each promise of the document, with ordinary inputs, the edges that it names, and wrong inputs. */
public final class DriftKinPromises {
    private static final int LOW = Integer.MIN_VALUE, HIGH = Integer.MAX_VALUE;
    private static final int NONE = DriftKin.NONE, UNKNOWN = DriftKin.UNKNOWN, OUTSIDE = DriftKin.OUTSIDE;
    private static final int STATE = DriftKin.STATE, FULL = DriftKin.FULL, NO = DriftKin.NO;

    private static int wrong = 0;

    private static void due(String call, long got, long want) {
        if (got == want) return;
        wrong++;
        System.out.println(call + " answered " + got + ", due is " + want);
    }

    private static void say(DriftKin x, String years) {
        for (int i = 0; i < years.length(); i++) x.say(years.charAt(i));
    }

    /** Tells these years in place of what was on the pad, and has them done. */
    private static int did(DriftKin x, String years) {
        x.wipe();
        say(x, years);
        return x.done();
    }

    private static void judged(DriftKin x, String years, int act, int why) {
        x.wipe();
        say(x, years);
        due("judge(0) of " + years, x.judge(0), act);
        due("judge(1) of " + years, x.judge(1), why);
        int stands = act == NONE ? 0 : NO;
        due("where of " + years, Math.min(x.where(0), 0), stands);
        due("then of " + years, Math.min(x.then(1), 0), stands);
        x.wipe();
    }

    private static void faulty(String years, int place) {
        DriftKin x = new DriftKin();
        say(x, years);
        due("fault() of " + years, x.fault(), place);
        int stands = place == NONE ? 0 : NO;
        due("judge for " + years, x.judge(0) == NO ? NO : 0, stands);
        if (place == NONE && x.judge(0) != NONE) stands = NO;
        due("where for " + years, x.where(0) == NO ? NO : 0, stands);
        due("behind for " + years, x.behind(0, 2) == NO ? NO : 0, stands);
        if (place != NONE) {
            due("then refused for " + years, x.then(0), NO);
            due("done refused for " + years, x.done(), NO);
            due("signs stay for " + years, x.told(0), years.length());
        }
    }

    public static void main(String[] args) {
        newObject();
        piece();
        ends();
        rings();
        sayAndWipe();
        fault();
        judge();
        lastYear();
        done();
        behind();
        planks();
        sameAndLie();
        match();
        sights();
        ask();
        saw();
        soon();
        book();
        images();
        told();
        System.out.println(wrong == 0 ? "all promises are kept" : wrong + " answers are not as due");
        if (wrong != 0) System.exit(1);
    }

    private static void newObject() {
        DriftKin x = new DriftKin();
        for (int p = 0; p < 10; p++) {
            due("new wreck of " + p, x.told(10 * (1 + p)), p);
            due("new wood of " + p, x.told(10 * (1 + p) + 1), 0);
            due("new length of " + p, x.told(10 * (1 + p) + 2), 1);
            for (int what = 3; what <= 6; what++) due("new " + what + " of " + p, x.told(10 * (1 + p) + what), 0);
        }
        for (int h = 0; h < 8; h++) {
            due("new piece of house " + h, x.told(200 + 10 * h), NONE);
            due("new partner of house " + h, x.told(201 + 10 * h), NONE);
            due("new children of house " + h, x.told(202 + 10 * h), 0);
        }
        for (int what = 0; what <= 2; what++) due("new told " + what, x.told(what), 0);
        due("new wheel", x.wheel(), 255);
    }

    private static void piece() {
        DriftKin x = new DriftKin();
        due("piece sets", x.piece(9, 8, 3, 20), 1);
        due("piece was", x.piece(9, 0, 1, 7), 20);
        due("wreck", x.told(100), 0);
        due("wood", x.told(101), 1);
        due("length", x.told(102), 7);
        due("piece 10", x.piece(10, 0, 0, 1), UNKNOWN);
        due("piece -1 ahead of OUTSIDE", x.piece(-1, -1, 0, 1), UNKNOWN);
        due("wreck -1", x.piece(9, -1, 0, 1), OUTSIDE);
        due("wreck 10", x.piece(9, 10, 0, 1), OUTSIDE);
        due("wood -1", x.piece(9, 0, -1, 1), OUTSIDE);
        due("wood 4", x.piece(9, 0, 4, 1), OUTSIDE);
        due("length 0", x.piece(9, 0, 0, 0), OUTSIDE);
        due("length 21", x.piece(9, 0, 0, 21), OUTSIDE);
        due("refused changes nothing", x.told(101) * 100 + x.told(102), 107);
        due("wreck 9", x.piece(0, 9, 0, 1), 1);
        due("wreck 9 told", x.told(10), 9);
    }

    private static void ends() {
        DriftKin x = new DriftKin();
        due("ends sets", x.ends(3, 4, 9), 0);
        due("ends were", x.ends(3, 9, 0), 49);
        due("left", x.told(43), 9);
        due("right", x.told(44), 0);
        due("ends 10", x.ends(10, 0, 0), UNKNOWN);
        due("ends -1 ahead", x.ends(-1, 10, 0), UNKNOWN);
        due("left 10", x.ends(3, 10, 0), OUTSIDE);
        due("left -1", x.ends(3, -1, 0), OUTSIDE);
        due("right 10", x.ends(3, 0, 10), OUTSIDE);
        due("right -1", x.ends(3, 0, -1), OUTSIDE);
        due("ends stay", x.ends(3, 9, 0), 90);
    }

    private static void rings() {
        DriftKin x = new DriftKin();
        due("rings set", x.rings(0, 99999999), 0);
        due("rings were", x.rings(0, 0), 99999999);
        due("rings 10", x.rings(10, 0), UNKNOWN);
        due("rings -1 ahead", x.rings(-1, -1), UNKNOWN);
        due("row -1", x.rings(0, -1), OUTSIDE);
        due("row 100000000", x.rings(0, 100000000), OUTSIDE);
        due("rings stay", x.told(16), 0);
    }

    private static void sayAndWipe() {
        DriftKin x = new DriftKin();
        due("wipe of nothing", x.wipe(), 0);
        due("sign 32", x.say(32), OUTSIDE);
        due("sign 127", x.say(127), OUTSIDE);
        due("sign 33", x.say(33), 1);
        due("sign 126", x.say(126), 2);
        for (int i = 3; i <= 60; i++) due("say " + i, x.say('.'), i);
        due("say on a full pad", x.say('.'), FULL);
        due("OUTSIDE ahead of FULL", x.say(0), OUTSIDE);
        due("signs", x.told(0), 60);
        due("wipe", x.wipe(), 60);
        due("signs gone", x.told(0), 0);
        for (int i = 1; i <= 60; i++) x.say('.');
        due("sixty years", x.then(2), 60);
    }

    private static void fault() {
        faulty("", NONE);
        faulty(".", NONE);
        faulty("0", NONE);
        faulty("9H9", NONE);
        faulty("A-", NONE);
        faulty("A*", NONE);
        faulty("A+H", NONE);
        faulty("A", 1);
        faulty("A+", 2);
        faulty("0A", 2);
        faulty("AB", 1);
        faulty("A.", 1);
        faulty("A+1", 2);
        faulty("A++", 2);
        faulty("A+I", 2);
        faulty("I0", 0);
        faulty("@0", 0);
        faulty("a0", 0);
        faulty("/", 0);
        faulty(":", 0);
        faulty("+", 0);
        faulty("-", 0);
        faulty("*", 0);
        faulty("0.A0x", 4);
        faulty("0A0A*B", 6);
        faulty("A/", 1);
        faulty("A:", 1);
    }

    private static void judge() {
        DriftKin x = new DriftKin();
        due("judge what 2", x.judge(2), OUTSIDE);
        due("judge what -1", x.judge(-1), OUTSIDE);
        due("judge of nothing", x.judge(1), NONE);
        judged(x, "00", 1, 1);
        judged(x, "A0", 0, 1);
        judged(x, "0A0B0", 2, 1);
        judged(x, "01A0A1", 3, 2);
        judged(x, "0A0A1", 2, 1);
        judged(x, "A*", 0, 2);
        judged(x, "A+B", 0, 2);
        judged(x, "0A0A+B", 2, 2);
        judged(x, "0A0B+A", 2, 2);
        judged(x, "B+B", 0, 2);
        judged(x, "0A0A+A", 2, 3);
        judged(x, "01A0B1A+BB+A", 5, 4);
        judged(x, "01A0B1A+BA+A", 5, 3);
        judged(x, "012A0B1C2A+BC+B", 7, 4);
        judged(x, "012A0B1C2A+BB+C", 7, 4);
        judged(x, "A-", 0, 4);
        judged(x, "0A0A-", 2, 4);
        judged(x, "01A0B1A+BA-B-", 6, 4);
        judged(x, "0A0A*0", 3, 1);
        judged(x, "0A0A*A0", 3, 1);
        judged(x, "01A0B1A+BA*A+B", 6, 2);
        judged(x, "01A0B1A+BA*A-", NONE, NONE);
        judged(x, "012A0B1A+BA*A2B-A+B", NONE, NONE);
        x.piece(1, 0, 0, 1);
        judged(x, "01A0B1A+B", 4, 5);
        judged(x, "012A0B1C2A+CA+B", 7, 4);
        due("judging does nothing", x.told(15), 0);
    }

    private static void lastYear() {
        DriftKin x = new DriftKin();
        due("wed", did(x, "01A0B1A+B"), 5);
        for (int i = 0; i < 60; i++) x.say('.');
        due("sixty", x.done(), 60);
        for (int i = 0; i < 39; i++) x.say('.');
        due("ninety-nine", x.done(), 39);
        due("year 99", x.told(1), 99);
        due("children 99", x.told(202), 99);
        judged(x, ".", 0, 6);
        judged(x, "2.", 1, 6);
        due("book in year 99", x.book(0, 99, 1) <= 198 ? 1 : 0, 1);
        DriftKin y = new DriftKin();
        did(y, "01A0B1A+B");
        due("unwed have none", y.told(222), 0);
        for (int i = 0; i < 60; i++) y.say('.');
        due("parted", did(y, ".A-...A+B.") == 7 ? y.told(212) : -1, 2);
    }

    private static void done() {
        DriftKin x = new DriftKin();
        due("nothing done", x.done(), 0);
        due("acts done", did(x, "01A0B1A+B.A*"), 7);
        due("pad empty", x.told(0), 0);
        due("burnt", x.told(15), 3);
        due("at a house", x.told(25), 2);
        due("of none", x.told(200), NONE);
        due("still wed", x.told(201), 1);
        due("children stay", x.told(202), 1);
        due("the other", x.told(211), 0);
        say(x, "2A");
        due("done with a fault", x.done(), NO);
        x.wipe();
        say(x, "22");
        due("done with what can not be", x.done(), NO);
        due("nothing of it is done", x.told(35), 0);
        due("signs stay", x.told(0), 2);
        due("parted", did(x, "B-"), 1);
        due("both are", x.told(201) + x.told(211), 2 * NONE);
    }

    private static void behind() {
        DriftKin x = new DriftKin();
        due("where of nothing", x.where(9), 0);
        say(x, "0123A0B1A+B.A*A2");
        due("where burnt", x.where(0), 3);
        due("where at home", x.where(1), 2);
        due("where taken later", x.where(2), 2);
        due("where ashore", x.where(3), 1);
        due("where at sea", x.where(4), 0);
        due("where 10", x.where(10), UNKNOWN);
        due("where -1", x.where(-1), UNKNOWN);
        due("behind piece", x.behind(0, 0), 2);
        due("behind wed", x.behind(1, 1), 0);
        due("behind children", x.behind(1, 2), 1);
        due("behind of none", x.behind(7, 0), NONE);
        due("behind unwed", x.behind(7, 1), NONE);
        due("behind house 8", x.behind(8, 3), UNKNOWN);
        due("behind house -1", x.behind(-1, 0), UNKNOWN);
        due("behind what 3", x.behind(0, 3), OUTSIDE);
        due("behind what -1", x.behind(0, -1), OUTSIDE);
        due("then ashore", x.then(0), 8);
        due("then weddings", x.then(1), 1);
        due("then year", x.then(2), 1);
        due("then what 3", x.then(3), OUTSIDE);
        due("then what -1", x.then(-1), OUTSIDE);
        due("not done", x.told(1) + x.told(15), 0);
        x.say('A');
        due("UNKNOWN ahead of NO", x.where(10), UNKNOWN);
        due("UNKNOWN ahead of NO, behind", x.behind(8, 0), UNKNOWN);
        due("OUTSIDE ahead of NO, behind", x.behind(0, 3), OUTSIDE);
        due("OUTSIDE ahead of NO, then", x.then(3), OUTSIDE);
        due("OUTSIDE ahead of NO, judge", x.judge(2), OUTSIDE);
        did(x, "0123A0B1A+B.");
        due("weddings of these years alone", x.then(1), 0);
        say(x, "A-A+BB-B+A");
        due("two weddings of the same", x.then(1), 2);
    }

    private static void planks() {
        DriftKin x = new DriftKin();
        due("longest what 2", x.longest(2), OUTSIDE);
        due("longest what -1", x.longest(-1), OUTSIDE);
        due("all in one", x.longest(1), 1023);
        due("one plank", x.deck(), 1);
        for (int p = 0; p < 10; p++) x.ends(p, p, 9 - p == p ? 0 : p + 1 > 9 ? 0 : p + 1);
        due("a ring of ten", x.longest(1), 1023);
        due("a ring of ten is one plank", x.deck(), 1);
        x.piece(0, 0, 1, 3);
        x.piece(5, 5, 1, 3);
        due("two arcs, the left piece is longer", x.longest(0), 4);
        due("least bits of as much", x.longest(1), 2 + 4 + 8 + 16);
        due("four planks", x.deck(), 4);
        did(x, "0A0A*5A5A*");
        due("burnt ones are not laid", x.deck(), 2);
        did(x, "1A1A*2A2A*3A3A*4A4A*6A6A*");
        due("three are left", x.longest(1), 128 + 256 + 512);
        did(x, "7A7A*8A8A*9A9A*");
        due("all burnt, how much", x.longest(0), 0);
        due("all burnt, which", x.longest(1), 0);
        due("all burnt, deck", x.deck(), 0);
        DriftKin y = new DriftKin();
        for (int p = 0; p < 10; p++) y.ends(p, 9, p);
        y.piece(4, 4, 0, 20);
        y.piece(7, 7, 0, 20);
        due("9 stands ahead of one, not of itself", y.longest(0), 21);
        due("least of as much", y.longest(1), 16 + 512);
        due("nine planks", y.deck(), 9);
    }

    private static void sameAndLie() {
        DriftKin x = new DriftKin();
        x.rings(0, 12345678);
        x.rings(1, 34567800);
        due("same by 2", x.same(0, 1, 2), 6);
        due("same by -2", x.same(1, 0, -2), 6);
        due("same by -2 the other way", x.same(0, 1, -2), 0);
        due("lie most", x.lie(0, 1, 0), 6);
        due("lie where", x.lie(0, 1, 1), 7);
        due("lie back", x.lie(1, 0, 1), 3);
        due("zeroes lead", x.same(2, 3, 0), 8);
        due("by 5", x.same(2, 3, 5), 3);
        due("by -5", x.same(2, 3, -5), 3);
        x.rings(5, 78912345);
        x.rings(6, 33333789);
        due("the last s alone", x.lie(6, 5, 1), 10);
        due("the last s, how many", x.lie(6, 5, 0), 3);
        due("the first s alone", x.lie(5, 6, 1), 0);
        x.rings(4, 11111111);
        due("none is the same, the least s", x.lie(3, 4, 1), 0);
        due("none is the same", x.lie(3, 4, 0), 0);
        due("same one 10", x.same(10, 0, 9), UNKNOWN);
        due("same other -1", x.same(0, -1, 0), UNKNOWN);
        due("same s 6", x.same(0, 1, 6), OUTSIDE);
        due("same s -6", x.same(0, 1, -6), OUTSIDE);
        due("lie one -1", x.lie(-1, 0, 0), UNKNOWN);
        due("lie other 10", x.lie(0, 10, 9), UNKNOWN);
        due("lie what 2", x.lie(0, 1, 2), OUTSIDE);
        due("lie what -1", x.lie(0, 1, -1), OUTSIDE);
        did(x, "0A0A*");
        due("burnt ones had rings", x.same(0, 1, 2), 6);
    }

    private static void match() {
        DriftKin x = new DriftKin();
        due("match 8", x.match(8), UNKNOWN);
        due("match -2", x.match(-2), UNKNOWN);
        due("none yet", x.match(-1), 0);
        for (int p = 0; p < 8; p++) x.piece(p, p < 5 ? 0 : p, 0, 1);
        did(x, "01234567A0B1C2D3E4F5G6H7");
        due("three with the five", x.match(-1), 3);
        due("A the least it can", x.match(0), 5);
        due("B", x.match(1), 6);
        due("C", x.match(2), 7);
        due("D with none", x.match(3), NONE);
        due("F", x.match(5), 0);
        did(x, "A+H");
        due("two are left", x.match(-1), 2);
        due("wed already", x.match(0), NONE);
        due("B with F", x.match(1), 5);
        DriftKin y = new DriftKin();
        y.piece(0, 7, 0, 1);
        y.piece(1, 7, 0, 1);
        y.piece(2, 7, 0, 1);
        y.piece(3, 3, 0, 1);
        did(y, "0123A3B0C1D2");
        due("one with A", y.match(-1), 1);
        due("A with the least", y.match(0), 1);
        due("C with none", y.match(2), NONE);
        y.piece(2, 2, 0, 1);
        due("two of four", y.match(-1), 2);
        due("A may have B", y.match(0), 1);
        due("C has D", y.match(2), 3);
        y.piece(0, 2, 0, 1);
        due("B and D are of one wreck", y.match(0), 1);
        say(y, "A+B");
        due("as things are now, not on the pad", y.match(-1), 2);
        DriftKin z = new DriftKin();
        z.piece(1, 5, 0, 1);
        z.piece(2, 2, 0, 1);
        z.piece(3, 5, 0, 1);
        z.piece(0, 2, 0, 1);
        z.piece(4, 5, 0, 1);
        did(z, "01234A0B1C2D3E4");
        due("the second of five", z.match(4), NONE);
        due("as many as can be", z.match(-1), 2);
    }

    private static void sights() {
        DriftKin x = new DriftKin();
        due("heard house 8", x.heard(8, 8, true), UNKNOWN);
        due("heard house -1", x.heard(-1, 0, true), UNKNOWN);
        due("heard d 8", x.heard(0, 8, true), OUTSIDE);
        due("heard d -1", x.heard(0, -1, true), OUTSIDE);
        due("first", x.heard(0, 5, true), 1);
        due("0 to 5", x.wheel(), 63);
        due("second", x.heard(3, 1, false), 2);
        due("not 2 to 4", x.wheel(), 35);
        for (int i = 3; i <= 8; i++) due("sight " + i, x.heard(7, 7, true), i);
        due("ninth", x.heard(7, 7, true), FULL);
        due("OUTSIDE ahead of FULL", x.heard(7, 8, true), OUTSIDE);
        due("UNKNOWN ahead of FULL", x.heard(8, 0, true), UNKNOWN);
        due("sights", x.told(2), 8);
        due("forget", x.forget(), 8);
        due("forgotten", x.forget(), 0);
        due("anywhere", x.wheel(), 255);
        x.heard(0, 7, false);
        due("nowhere", x.wheel(), 0);
    }

    private static void ask() {
        DriftKin x = new DriftKin();
        due("ask what 2", x.ask(2), OUTSIDE);
        due("ask what -1", x.ask(-1), OUTSIDE);
        due("house 0, d 3 halves them", x.ask(0), 3);
        due("four are left", x.ask(1), 4);
        x.heard(6, 1, true);
        due("of 5, 6, 7: house 0, d 5", x.ask(0), 5);
        due("two are left", x.ask(1), 2);
        x.heard(6, 1, false);
        due("nowhere", x.ask(0), NONE);
        due("nowhere, how many", x.ask(1), NONE);
        due("nowhere, OUTSIDE ahead", x.ask(2), OUTSIDE);
        x.forget();
        x.heard(3, 1, false);
        x.heard(3, 2, true);
        due("1 and 5: house 0, d 1", x.ask(0), 1);
        due("one is left", x.ask(1), 1);
    }

    private static void saw() {
        DriftKin x = new DriftKin();
        due("k 0", x.saw(0, 0), OUTSIDE);
        due("k 10", x.saw(10, 0), OUTSIDE);
        due("k high", x.saw(HIGH, 0), OUTSIDE);
        due("what 2", x.saw(1, 2), OUTSIDE);
        due("what -1", x.saw(1, -1), OUTSIDE);
        due("none ashore", x.saw(9, 0), 0);
        due("none ashore, which", x.saw(9, 1), NONE);
        x.piece(3, 3, 0, 10);
        did(x, "3");
        due("ten by nine is lost", x.saw(9, 1), NONE);
        due("ten by eight", x.saw(8, 1), 301);
        due("ten by one", x.saw(1, 0), 0);
        x.piece(3, 3, 0, 7);
        due("seven by nine: all of it", x.saw(9, 1), 307);
        did(x, "2");
        x.piece(2, 2, 0, 20);
        due("the least piece of both", x.saw(5, 1), 201);
        due("twenty is left over by ten as nothing", x.saw(9, 1), 203);
        did(x, "A3");
        due("one at a house is not sawn", x.saw(9, 1), NONE);
        due("nothing is sawn in fact", x.told(32), 20);
    }

    private static void soon() {
        DriftKin x = new DriftKin();
        long refused = DriftKin.LOST + OUTSIDE;
        due("t -1", x.soon(-1, 0, 0, 0), refused);
        due("t 11", x.soon(11, 0, 0, 0), refused);
        due("n -1", x.soon(5, -1, 0, 0), refused);
        due("n 16", x.soon(5, 16, 0, 0), refused);
        due("n 9 for one of two", x.soon(5, 9, 1, 0), refused);
        due("n 9 for both", x.soon(5, 9, 2, 0), refused);
        due("what -1", x.soon(5, 1, -1, 0), refused);
        due("what 3", x.soon(5, 1, 3, 0), refused);
        due("part -1", x.soon(5, 1, 0, -1), refused);
        due("part 2", x.soon(5, 1, 0, 2), refused);
        due("n 15, upper", x.soon(1, 15, 0, 0), 1000000000000000L - 205891132094649L);
        due("n 15, lower", x.soon(1, 15, 0, 1), 1000000000000000L);
        due("n 8 of two, upper", x.soon(1, 8, 1, 0), 10000000000000000L - 1853020188851841L);
        due("n 8 of two, lower", x.soon(1, 8, 1, 1), 10000000000000000L);
        due("n 8 both, upper", x.soon(1, 8, 2, 0), 56953279L * 56953279L);
        due("n 8 both, lower", x.soon(1, 8, 2, 1), 10000000000000000L);
        due("lowest terms, upper", x.soon(4, 2, 0, 0), 16);
        due("lowest terms, lower", x.soon(4, 2, 0, 1), 25);
        due("one of two", x.soon(4, 1, 1, 0) * 1000 + x.soon(4, 1, 1, 1), 16025);
        due("both", x.soon(4, 1, 2, 0) * 1000 + x.soon(4, 1, 2, 1), 4025);
        for (int what = 0; what <= 2; what++) {
            due("no gale, " + what, x.soon(7, 0, what, 0) * 10 + x.soon(7, 0, what, 1), 1);
            due("never, " + what, x.soon(0, 8, what, 0) * 10 + x.soon(0, 8, what, 1), 1);
            due("surely, " + what, x.soon(10, 8, what, 0) * 10 + x.soon(10, 8, what, 1), 11);
        }
    }

    private static void book() {
        DriftKin x = new DriftKin();
        due("seed -1", x.book(-1, 1, 0), OUTSIDE);
        due("seed 10000", x.book(10000, 1, 0), OUTSIDE);
        due("m 0", x.book(0, 0, 0), OUTSIDE);
        due("m 100", x.book(0, 100, 0), OUTSIDE);
        due("what 3", x.book(0, 1, 3), OUTSIDE);
        due("what -1", x.book(0, 1, -1), OUTSIDE);
        due("seed 0, which draws 74: H takes piece 9, that is not ashore", x.book(0, 1, 0), 0);
        due("seed 9999, 99 acts", x.book(9999, 99, 2), 0);
        // Seed 4 draws 374 (G burns: none), 28124 (D and H wed), 12190 (D burns), 62343 (a year).
        did(x, "0123H0D1A2");
        due("one draw, houses", x.book(4, 1, 0), 3);
        due("one draw, weddings", x.book(4, 1, 2), 0);
        due("two draws, weddings", x.book(4, 2, 2), 1);
        due("two draws, houses", x.book(4, 2, 0), 3);
        due("three draws, houses", x.book(4, 3, 0), 2);
        due("three draws, children", x.book(4, 3, 1), 0);
        due("four draws, children of both", x.book(4, 4, 1), 2);
        due("four draws, weddings", x.book(4, 4, 2), 1);
        due("nothing is done in fact", x.told(0) + x.told(1) + x.told(202) + x.told(65), 0);
        due("nobody is wed in fact", x.told(231), NONE);
        x.piece(0, 1, 0, 1);
        due("of one wreck, no wedding", x.book(4, 2, 2), 0);
        DriftKin y = new DriftKin();
        did(y, "01A0B1A+B...");
        say(y, "A-A*");
        due("what was ahead of it counts, the pad does not", y.book(4, 1, 1), 6);
        due("weddings in it alone", y.book(4, 1, 2), 0);
        due("houses that were ahead of it", y.book(4, 1, 0), 2);
    }

    private static void images() {
        DriftKin x = new DriftKin();
        due("image -1", x.image(-1), OUTSIDE);
        due("image 2", x.image(2), OUTSIDE);
        due("restore -1", x.restore(-1), OUTSIDE);
        due("restore 2", x.restore(2), OUTSIDE);
        due("restore what was not kept", x.restore(0), STATE);
        due("image 1", x.image(1), 1);
        due("the other one was not kept", x.restore(0), STATE);
        x.piece(0, 3, 2, 9);
        x.ends(0, 7, 8);
        x.rings(0, 123);
        x.heard(1, 2, true);
        did(x, "01A0B1A+B.");
        due("image 0", x.image(0), 1);
        did(x, "A-A*.2");
        x.forget();
        x.heard(7, 0, false);
        x.heard(6, 0, false);
        say(x, "...");
        due("restore", x.restore(0), 1);
        due("signs stay", x.told(0), 3);
        due("year", x.told(1), 1);
        due("sights", x.told(2), 1);
        due("wheel", x.wheel(), 15);
        due("pieces", x.told(10) * 100 + x.told(11) * 10 + x.told(12), 329);
        due("ends", x.told(13) * 10 + x.told(14), 78);
        due("where", x.told(15) * 10 + x.told(35), 20);
        due("rings", x.told(16), 123);
        due("houses", x.told(200) * 100 + x.told(201) * 10 + x.told(202), 11);
        due("restore 1", x.restore(1), 1);
        due("as at first", x.told(1) + x.told(2) + x.told(15) + x.told(202), 0);
        due("restore 0 again", x.restore(0), 1);
        due("year again", x.told(1), 1);
        x.piece(0, 0, 0, 1);
        due("what comes later leaves the image alone", x.restore(0) * 100 + x.told(12), 109);
    }

    private static void told() {
        DriftKin x = new DriftKin();
        int[] outside = {LOW, -10, -1, 3, 9, 17, 18, 19, 27, 107, 109, 110, 199, 203, 209, 213, 273, 280, 281, HIGH};
        for (int what : outside) due("told " + what, x.told(what), OUTSIDE);
        x.piece(9, 8, 3, 19);
        x.ends(9, 5, 6);
        x.rings(9, 77);
        did(x, "0.1.9.A0H9A+H.");
        say(x, "..");
        x.heard(0, 0, false);
        due("signs", x.told(0), 2);
        due("year", x.told(1), 4);
        due("sights", x.told(2), 1);
        int[] last = {8, 3, 19, 5, 6, 2, 77};
        for (int what = 0; what <= 6; what++) due("told of piece 9, " + what, x.told(100 + what), last[what]);
        int[] house = {9, 0, 1};
        for (int what = 0; what <= 2; what++) due("told of house H, " + what, x.told(270 + what), house[what]);
    }
}
