/** What the tests of one boundary each have in common: a new object's years, its whole state, and what is due. */
abstract class Edges {
    static final int LOW = Integer.MIN_VALUE, HIGH = Integer.MAX_VALUE;
    static final int NONE = DriftKin.NONE, UNKNOWN = DriftKin.UNKNOWN, OUTSIDE = DriftKin.OUTSIDE;
    static final int STATE = DriftKin.STATE, FULL = DriftKin.FULL, NO = DriftKin.NO;
    static final long LOST_OUTSIDE = DriftKin.LOST + DriftKin.OUTSIDE;

    private static int wrong = 0;

    static int wrongs() {
        return wrong;
    }

    static void due(String call, long got, long want) {
        if (got == want) return;
        wrong++;
        System.out.println("  " + call + " answered " + got + ", due is " + want);
    }

    /** An object with these years done, act by act. */
    static DriftKin kin(String years) {
        DriftKin x = new DriftKin();
        did(x, years);
        return x;
    }

    /** An object with these signs on its pad. */
    static DriftKin pad(String signs) {
        DriftKin x = new DriftKin();
        say(x, signs);
        return x;
    }

    static void say(DriftKin x, String signs) {
        for (int i = 0; i < signs.length(); i++) x.say(signs.charAt(i));
    }

    static void did(DriftKin x, String years) {
        x.wipe();
        say(x, years);
        if (x.done() < 0) due("done() of " + years, -1, 0);
    }

    /** The years are told to the pad of x; which act can not be, and why. The pad is empty behind it. */
    static void judged(DriftKin x, String years, int act, int why) {
        x.wipe();
        say(x, years);
        due("judge(0) of " + years, x.judge(0), act);
        due("judge(1) of " + years, x.judge(1), why);
        x.wipe();
    }

    static void judged(String years, int act, int why) {
        judged(new DriftKin(), years, act, why);
    }

    /** All that can be read of an object, in 102 calls. */
    static long[] state(DriftKin x) {
        long[] state = new long[102];
        int n = 0;
        for (int what = 0; what <= 2; what++) state[n++] = x.told(what);
        for (int p = 0; p < 10; p++) for (int what = 0; what <= 6; what++) state[n++] = x.told(10 * (1 + p) + what);
        for (int h = 0; h < 8; h++) for (int what = 0; what <= 2; what++) state[n++] = x.told(200 + 10 * h + what);
        state[n++] = x.wheel();
        state[n++] = x.fault();
        state[n++] = x.judge(0);
        state[n++] = x.judge(1);
        state[n++] = x.then(0);
        return state;
    }

    static void same(String what, DriftKin x, long[] before) {
        long[] behind = state(x);
        for (int i = 0; i < before.length; i++) due(what + ", item " + i + " of the state", behind[i], before[i]);
    }

    /** An object of which each thing is another than at first: signs, images and sights too. */
    static DriftKin fullOfThings() {
        DriftKin x = new DriftKin();
        for (int p = 0; p < 10; p++) {
            x.piece(p, 9 - p, p % 4, p + 2);
            x.ends(p, p, 9 - p);
            x.rings(p, 11111111 * (p % 9 + 1));
        }
        did(x, "0123A0B1A+B..B*C3");
        x.image(1);
        x.heard(3, 2, true);
        x.heard(7, 1, false);
        say(x, "4.C-");
        return x;
    }
}
