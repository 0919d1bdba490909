import java.math.BigInteger;
import java.util.ArrayList;
import java.util.Arrays;
import java.util.HashMap;
import java.util.List;
import java.util.Map;
import java.util.Random;
import java.util.TreeMap;
import java.util.regex.Matcher;
import java.util.regex.Pattern;

/** Runs of drawn calls, each answer beside that of a slow model that is written another way. */
public final class DriftKinAgainstModel {
    private static final int RUNS = 600, CALLS = 500;
    private static final int NONE = -6, UNKNOWN = -1, OUTSIDE = -2, STATE = -3, FULL = -4, NO = -5;
    private static final int[] EXTREME = {Integer.MIN_VALUE, -7, -2, -1, 8, 10, 11, 100, 281, Integer.MAX_VALUE};

    private static final class Stick {
        int wreck, wood, length = 1, left, right, place;
        String rings = "00000000";
    }

    private static final class Home {
        Stick of;
        Home partner;
        int children;
    }

    private static final class Sight {
        int house, d;
        boolean is;
    }

    private static final class World {
        final Stick[] sticks = new Stick[10];
        final Home[] homes = new Home[8];
        List<Sight> sights = new ArrayList<>();
        int year;

        World() {
            for (int i = 0; i < 10; i++) {
                sticks[i] = new Stick();
                sticks[i].wreck = i;
            }
            for (int i = 0; i < 8; i++) homes[i] = new Home();
        }

        World twin() {
            World w = new World();
            for (int i = 0; i < 10; i++) {
                Stick from = sticks[i];
                Stick to = w.sticks[i];
                to.wreck = from.wreck;
                to.wood = from.wood;
                to.length = from.length;
                to.left = from.left;
                to.right = from.right;
                to.place = from.place;
                to.rings = from.rings;
            }
            for (int i = 0; i < 8; i++) {
                if (homes[i].of != null) w.homes[i].of = w.sticks[stickNumber(homes[i].of)];
                if (homes[i].partner != null) w.homes[i].partner = w.homes[homeNumber(homes[i].partner)];
                w.homes[i].children = homes[i].children;
            }
            w.sights = new ArrayList<>(sights);
            w.year = year;
            return w;
        }

        int stickNumber(Stick s) {
            return s == null ? NONE : Arrays.asList(sticks).indexOf(s);
        }

        int homeNumber(Home h) {
            return h == null ? NONE : Arrays.asList(homes).indexOf(h);
        }

        /** Why an act can not be (0: it can, and is done). */
        int act(String act) {
            List<Integer> reasons = new ArrayList<>();
            char first = act.charAt(0);
            if (first == '.') {
                if (year == 99) return 6;
                year++;
                for (Home h : homes) if (h.partner != null) h.children = Math.min(99, h.children + 1);
                return 0;
            }
            if (act.length() == 1) {
                Stick s = sticks[first - '0'];
                if (s.place != 0) return 1;
                s.place = 1;
                return 0;
            }
            Home h = homes[first - 'A'];
            char second = act.charAt(1);
            if (second == '-') {
                if (h.partner == null) return 4;
                h.partner.partner = null;
                h.partner = null;
            } else if (second == '*') {
                if (h.of == null) return 2;
                h.of.place = 3;
                h.of = null;
            } else if (second == '+') {
                Home o = homes[act.charAt(2) - 'A'];
                if (h.of != null && o.of != null && h.of.wreck == o.of.wreck) reasons.add(5);
                if (h.partner != null || o.partner != null) reasons.add(4);
                if (h == o) reasons.add(3);
                if (h.of == null || o.of == null) reasons.add(2);
                if (!reasons.isEmpty()) return reasons.get(reasons.size() - 1);
                h.partner = o;
                o.partner = h;
            } else {
                Stick s = sticks[second - '0'];
                if (s.place != 1) return 1;
                if (h.of != null) return 2;
                s.place = 2;
                h.of = s;
            }
            return 0;
        }
    }

    private static final Pattern YEARS = Pattern.compile("([0-9.]|[A-H]([0-9*-]|\\+[A-H]))*");
    private static final Pattern ACT = Pattern.compile("[0-9.]|[A-H]([0-9*-]|\\+[A-H])");

    private static final class Model {
        World now = new World();
        final Map<Integer, World> images = new HashMap<>();
        String pad = "";
        World end;
        int acts, why, weddings;

        void tell() {
            end = now.twin();
            acts = 0;
            why = 0;
            weddings = 0;
            Matcher m = ACT.matcher(pad);
            while (m.find()) {
                why = end.act(m.group());
                if (why != 0) return;
                if (m.group().indexOf('+') > 0) weddings++;
                acts++;
            }
        }

        int fault() {
            if (YEARS.matcher(pad).matches()) return NONE;
            for (int n = 1; n <= pad.length(); n++) {
                String part = pad.substring(0, n);
                boolean canGoOn = false;
                for (String more : new String[] {"", "0", "A"}) canGoOn |= YEARS.matcher(part + more).matches();
                if (!canGoOn) return n - 1;
            }
            return pad.length();
        }

        boolean stands() {
            if (fault() != NONE) return false;
            tell();
            return why == 0;
        }

        boolean joins(int a, int b) {
            Stick one = now.sticks[a];
            Stick two = now.sticks[b];
            return a != b && one.place != 3 && two.place != 3 && one.wood == two.wood && one.right == two.left;
        }

        /** Few enough joints for a search of all planks. */
        boolean deckIsSmall() {
            int count = 0;
            for (int a = 0; a < 10; a++) for (int b = 0; b < 10; b++) if (joins(a, b)) count++;
            return count <= 22;
        }

        void lay(int last, int used, int length, TreeMap<Integer, Integer> found) {
            int before = found.getOrDefault(length, Integer.MAX_VALUE);
            found.put(length, Math.min(before, used));
            for (int next = 0; next < 10; next++) {
                if ((used >> next & 1) == 0 && joins(last, next)) lay(next, used | 1 << next, length + now.sticks[next].length, found);
            }
        }

        int longest(int what) {
            if (what < 0 || what > 1) return OUTSIDE;
            TreeMap<Integer, Integer> found = new TreeMap<>();
            for (int p = 0; p < 10; p++) if (now.sticks[p].place != 3) lay(p, 1 << p, now.sticks[p].length, found);
            if (found.isEmpty()) return 0;
            return what == 0 ? found.lastKey() : found.lastEntry().getValue();
        }

        /** The most joints, each piece with one behind it and one ahead at most, none going round. */
        int joints(int piece, int[] next, int taken) {
            if (piece == 10) return 0;
            next[piece] = -1;
            int best = joints(piece + 1, next, taken);
            for (int other = 0; other < 10; other++) {
                if ((taken >> other & 1) != 0 || !joins(piece, other)) continue;
                int at = other;
                while (at >= 0 && at < piece && next[at] >= 0) at = next[at];
                if (at == piece) continue;
                next[piece] = other;
                if (goesRound(next, piece)) continue;
                best = Math.max(best, 1 + joints(piece + 1, next, taken | 1 << other));
            }
            next[piece] = -1;
            return best;
        }

        static boolean goesRound(int[] next, int piece) {
            int at = next[piece];
            for (int i = 0; i < 10 && at >= 0; i++) {
                if (at == piece) return true;
                at = at > piece ? -1 : next[at];
            }
            return false;
        }

        int deck() {
            int count = 0;
            for (Stick s : now.sticks) if (s.place != 3) count++;
            return count - joints(0, new int[10], 0);
        }

        int same(int one, int other, int s) {
            String a = "     " + now.sticks[one].rings + "     ";
            String b = ("          " + now.sticks[other].rings + "          ").substring(5 - s, 5 - s + 18);
            int count = 0;
            for (int i = 0; i < 18; i++) if (a.charAt(i) != ' ' && a.charAt(i) == b.charAt(i)) count++;
            return count;
        }

        int lie(int one, int other, int what) {
            int best = 5;
            for (int s = 4; s >= -5; s--) if (same(one, other, s) >= same(one, other, best)) best = s;
            return what == 0 ? same(one, other, best) : best + 5;
        }

        /** All ways in their row, house 0 with the least first; the first of the best is kept. */
        void ways(int house, int[] mate, int count, int[] best) {
            if (house == 8) {
                if (count > best[8]) {
                    System.arraycopy(mate, 0, best, 0, 8);
                    best[8] = count;
                }
                return;
            }
            if (mate[house] != NONE) {
                ways(house + 1, mate, count, best);
                return;
            }
            Home one = now.homes[house];
            for (int o = house + 1; o < 8; o++) {
                Home two = now.homes[o];
                if (mate[o] != NONE || one.of == null || two.of == null) continue;
                if (one.partner != null || two.partner != null || one.of.wreck == two.of.wreck) continue;
                mate[house] = o;
                mate[o] = house;
                ways(house + 1, mate, count + 1, best);
                mate[house] = NONE;
                mate[o] = NONE;
            }
            ways(house + 1, mate, count, best);
        }

        int match(int house) {
            if (house < -1 || house > 7) return UNKNOWN;
            int[] mate = new int[8];
            Arrays.fill(mate, NONE);
            int[] best = new int[9];
            best[8] = -1;
            ways(0, mate, 0, best);
            return house < 0 ? best[8] : best[house];
        }

        List<Integer> wheelHouses() {
            List<Integer> can = new ArrayList<>();
            for (int h = 0; h < 8; h++) {
                boolean fits = true;
                for (Sight s : now.sights) fits &= (Math.max(h - s.house, s.house - h) <= s.d) == s.is;
                if (fits) can.add(h);
            }
            return can;
        }

        int wheel() {
            int bits = 0;
            for (int h : wheelHouses()) bits += 1 << h;
            return bits;
        }

        int ask(int what) {
            if (what < 0 || what > 1) return OUTSIDE;
            List<Integer> can = wheelHouses();
            if (can.isEmpty()) return NONE;
            int bestAsk = -1;
            int best = 99;
            for (int h = 7; h >= 0; h--) {
                for (int d = 7; d >= 0; d--) {
                    int in = 0;
                    for (int c : can) if (c >= h - d && c <= h + d) in++;
                    int most = Math.max(in, can.size() - in);
                    if (most <= best) {
                        best = most;
                        bestAsk = 10 * h + d;
                    }
                }
            }
            return what == 0 ? bestAsk : best;
        }

        /** Whether who is on turn wins, by trying all, with what was found kept by the lengths in a row. */
        static boolean wins(int[] lengths, int k, Map<String, Boolean> known) {
            int[] sorted = lengths.clone();
            Arrays.sort(sorted);
            String key = Arrays.toString(sorted);
            Boolean was = known.get(key);
            if (was != null) return was;
            boolean wins = false;
            for (int i = 0; i < sorted.length && !wins; i++) {
                if (i > 0 && sorted[i] == sorted[i - 1]) continue;
                for (int much = 1; much <= k && much <= sorted[i] && !wins; much++) {
                    sorted[i] -= much;
                    wins = !wins(sorted, k, known);
                    sorted[i] += much;
                }
            }
            known.put(key, wins);
            return wins;
        }

        int saw(int k, int what) {
            if (k < 1 || k > 9 || what < 0 || what > 1) return OUTSIDE;
            int[] lengths = new int[10];
            for (int p = 0; p < 10; p++) if (now.sticks[p].place == 1) lengths[p] = now.sticks[p].length;
            Map<String, Boolean> known = new HashMap<>();
            for (int p = 0; p < 10; p++) {
                for (int much = 1; much <= k && much <= lengths[p]; much++) {
                    lengths[p] -= much;
                    boolean other = wins(lengths, k, known);
                    lengths[p] += much;
                    if (!other) return what == 0 ? 1 : 100 * p + much;
                }
            }
            return what == 0 ? 0 : NONE;
        }

        /** How many fit for a search of all that can be sawn. */
        boolean sawIsSmall() {
            long states = 1;
            for (Stick s : now.sticks) if (s.place == 1) states *= s.length + 1;
            return states <= 3000;
        }

        static long soon(int t, int n, int what, int part) {
            long refused = -1000000000000000000L - 2;
            if (t < 0 || t > 10 || n < 0 || what < 0 || what > 2 || part < 0 || part > 1) return refused;
            if (n > (what == 0 ? 15 : 8)) return refused;
            BigInteger ten = BigInteger.TEN.pow(n);
            BigInteger miss = BigInteger.valueOf(10 - t).pow(n);
            BigInteger hit = ten.subtract(miss);
            BigInteger upper = hit;
            BigInteger lower = what == 0 ? ten : ten.pow(2);
            if (what == 1) upper = hit.multiply(ten).multiply(BigInteger.TWO).subtract(hit.pow(2));
            if (what == 2) upper = hit.pow(2);
            BigInteger shared = upper.gcd(lower);
            return (part == 0 ? upper : lower).divide(shared).longValueExact();
        }

        int book(int seed, int m, int what) {
            if (seed < 0 || seed > 9999 || m < 1 || m > 99 || what < 0 || what > 2) return OUTSIDE;
            World w = now.twin();
            long x = seed;
            int count = 0;
            for (int i = 0; i < m; i++) {
                x = (75 * x + 74) % 65537;
                String piece = Long.toString(x / 8 % 10);
                String one = String.valueOf((char) ('A' + x / 8 % 8));
                String two = String.valueOf((char) ('A' + x / 64 % 8));
                String[] acts = {piece, piece, two + piece, two + piece, one + "+" + two, one + "-", one + "*", "."};
                int kind = (int) (x % 8);
                if (w.act(acts[kind]) == 0 && kind == 4) count++;
            }
            int of = 0;
            int children = 0;
            for (Home h : w.homes) {
                if (h.of != null) of++;
                children += h.children;
            }
            return new int[] {of, children, count}[what];
        }

        static int stickTold(Stick s, int kind) {
            int[] all = {s.wreck, s.wood, s.length, s.left, s.right, s.place, Integer.parseInt(s.rings)};
            return all[kind];
        }

        static int homeTold(World w, int house, int kind) {
            Home h = w.homes[house];
            return new int[] {w.stickNumber(h.of), w.homeNumber(h.partner), h.children}[kind];
        }

        int told(int what) {
            if (what < 0) return OUTSIDE;
            if (what < 3) return new int[] {pad.length(), now.year, now.sights.size()}[what];
            int tens = what / 10;
            if (tens >= 1 && tens <= 10 && what % 10 < 7) return stickTold(now.sticks[tens - 1], what % 10);
            if (tens >= 20 && tens <= 27 && what % 10 < 3) return homeTold(now, tens - 20, what % 10);
            return OUTSIDE;
        }
    }

    private final Random random;
    private final DriftKin x = new DriftKin();
    private final Model m = new Model();
    private final int run;
    private int wrong = 0;

    private DriftKinAgainstModel(int run) {
        this.run = run;
        this.random = new Random(run);
    }

    private void due(String call, long got, long want) {
        if (got == want) return;
        wrong++;
        System.out.println("run " + run + ": " + call + " answered " + got + ", the model " + want + " (pad " + m.pad + ")");
    }

    /** Mostly from least to most, now and then far from it. */
    private int some(int least, int most) {
        if (random.nextInt(25) == 0) return EXTREME[random.nextInt(EXTREME.length)];
        return least + random.nextInt(most - least + 1);
    }

    private static boolean in(int number, int least, int most) {
        return number >= least && number <= most;
    }

    private void say(int sign) {
        int want = !in(sign, 33, 126) ? OUTSIDE : m.pad.length() == 60 ? FULL : m.pad.length() + 1;
        if (want > 0) m.pad += (char) sign;
        due("say(" + sign + ")", x.say(sign), want);
    }

    private String drawnAct() {
        char digit = (char) ('0' + random.nextInt(10));
        char one = (char) ('A' + random.nextInt(8));
        char two = (char) ('A' + random.nextInt(8));
        switch (random.nextInt(12)) {
            case 0: case 1: case 2: return "" + digit;
            case 3: case 4: case 5: return "" + one + digit;
            case 6: case 7: return "" + one + '+' + two;
            case 8: return "" + one + '-';
            case 9: return random.nextInt(3) == 0 ? "" + one + '*' : ".";
            default: return random.nextInt(20) == 0 ? "" + (char) (33 + random.nextInt(94)) : ".";
        }
    }

    /** Says acts that can be for the most part, so that years get on. */
    private int sayYears() {
        int said = 0;
        World probe = m.stands() ? m.end : m.now.twin();
        for (int i = 0; i < 40 && said < 12; i++) {
            String act = drawnAct();
            if (!ACT.matcher(act).matches() || (probe.act(act) != 0 && random.nextInt(80) != 0)) {
                if (random.nextInt(100) != 0) continue;
            }
            for (int k = 0; k < act.length(); k++) say(act.charAt(k));
            said += act.length();
        }
        return said;
    }

    private void years() {
        int what = some(0, 2);
        int house = some(0, 7);
        int piece = some(0, 9);
        due("fault()", x.fault(), m.fault());
        boolean stands = m.stands();
        int judged = !in(what, 0, 1) ? OUTSIDE : m.fault() != NONE ? NO : m.why == 0 ? NONE : what == 0 ? m.acts : m.why;
        due("judge(" + what + ")", x.judge(what), judged);
        int where = !in(piece, 0, 9) ? UNKNOWN : !stands ? NO : m.end.sticks[piece].place;
        due("where(" + piece + ")", x.where(piece), where);
        int behind = !in(house, 0, 7) ? UNKNOWN : !in(what, 0, 2) ? OUTSIDE : !stands ? NO : Model.homeTold(m.end, house, what);
        due("behind(" + house + ", " + what + ")", x.behind(house, what), behind);
        int then = !in(what, 0, 2) ? OUTSIDE : !stands ? NO : 0;
        if (then == 0 && what == 0) for (int p = 0; p < 10; p++) if (m.end.sticks[p].place == 1) then |= 1 << p;
        if (then == 0 && what > 0) then = what == 1 ? m.weddings : m.end.year;
        due("then(" + what + ")", x.then(what), then);
        if (random.nextInt(3) != 0) {
            due("done()", x.done(), stands ? m.acts : NO);
            if (stands) {
                m.now = m.end;
                m.pad = "";
            }
        }
        if (random.nextInt(stands ? 4 : 2) == 0) {
            due("wipe()", x.wipe(), m.pad.length());
            m.pad = "";
        }
    }

    private void change() {
        int piece = some(0, 9);
        int a = some(0, 9);
        int b = some(0, 2);
        int c = some(1, 20);
        boolean isPiece = in(piece, 0, 9);
        switch (random.nextInt(3)) {
            case 0:
                boolean fits = in(a, 0, 9) && in(b, 0, 3) && in(c, 1, 20);
                due("piece", x.piece(piece, a, b, c), !isPiece ? UNKNOWN : !fits ? OUTSIDE : m.now.sticks[piece].length);
                if (isPiece && fits) {
                    m.now.sticks[piece].wreck = a;
                    m.now.sticks[piece].wood = b;
                    m.now.sticks[piece].length = c;
                }
                break;
            case 1:
                a = some(0, 3);
                b = some(0, 3);
                fits = in(a, 0, 9) && in(b, 0, 9);
                int were = isPiece ? 10 * m.now.sticks[piece].left + m.now.sticks[piece].right : UNKNOWN;
                due("ends", x.ends(piece, a, b), !isPiece ? UNKNOWN : !fits ? OUTSIDE : were);
                if (isPiece && fits) {
                    m.now.sticks[piece].left = a;
                    m.now.sticks[piece].right = b;
                }
                break;
            default:
                int row = 0;
                for (int i = 0; i < 8; i++) row = 10 * row + random.nextInt(3);
                if (random.nextInt(10) == 0) row = random.nextBoolean() ? 100000000 : -1;
                fits = in(row, 0, 99999999);
                due("rings", x.rings(piece, row), !isPiece ? UNKNOWN : !fits ? OUTSIDE : Integer.parseInt(m.now.sticks[piece].rings));
                if (isPiece && fits) m.now.sticks[piece].rings = String.format("%08d", row);
        }
    }

    private void sights() {
        int house = some(0, 7);
        int d = some(0, 4);
        boolean is = random.nextInt(3) == 0;
        int size = m.now.sights.size();
        int want = !in(house, 0, 7) ? UNKNOWN : !in(d, 0, 7) ? OUTSIDE : size == 8 ? FULL : size + 1;
        due("heard", x.heard(house, d, is), want);
        if (want > 0) {
            Sight s = new Sight();
            s.house = house;
            s.d = d;
            s.is = is;
            m.now.sights.add(s);
        }
        int what = some(0, 1);
        due("wheel()", x.wheel(), m.wheel());
        due("ask(" + what + ")", x.ask(what), m.ask(what));
        if (random.nextInt(8) == 0) {
            due("forget()", x.forget(), m.now.sights.size());
            m.now.sights = new ArrayList<>();
        }
    }

    private void images() {
        int n = some(0, 1);
        if (random.nextBoolean()) {
            due("image", x.image(n), in(n, 0, 1) ? 1 : OUTSIDE);
            if (in(n, 0, 1)) m.images.put(n, m.now.twin());
        } else if (random.nextInt(4) == 0) {
            World kept = m.images.get(n);
            due("restore", x.restore(n), !in(n, 0, 1) ? OUTSIDE : kept == null ? STATE : 1);
            if (kept != null) m.now = kept.twin();
        }
    }

    private void pairs() {
        int one = some(0, 9);
        int other = some(0, 9);
        int s = some(-5, 5);
        int what = some(0, 1);
        boolean known = in(one, 0, 9) && in(other, 0, 9);
        due("same", x.same(one, other, s), !known ? UNKNOWN : !in(s, -5, 5) ? OUTSIDE : m.same(one, other, s));
        due("lie", x.lie(one, other, what), !known ? UNKNOWN : !in(what, 0, 1) ? OUTSIDE : m.lie(one, other, what));
        int house = some(-1, 7);
        due("match(" + house + ")", x.match(house), m.match(house));
    }

    private void games() {
        int k = some(1, 9);
        int what = some(0, 2);
        if (m.sawIsSmall()) due("saw(" + k + ", " + what + ")", x.saw(k, what), m.saw(k, what));
        int t = some(0, 10);
        int n = some(0, 15);
        int part = some(0, 1);
        due("soon " + t + " " + n + " " + what + " " + part, x.soon(t, n, what, part), Model.soon(t, n, what, part));
        int seed = some(0, 9999);
        int acts = some(1, 99);
        due("book " + seed + " " + acts + " " + what, x.book(seed, acts, what), m.book(seed, acts, what));
    }

    /** As new, all pieces join one another. */
    private void spread() {
        for (int p = 0; p < 10; p++) {
            int left = random.nextInt(4);
            int right = random.nextInt(4);
            due("ends", x.ends(p, left, right), 0);
            m.now.sticks[p].left = left;
            m.now.sticks[p].right = right;
        }
    }

    private int play() {
        spread();
        for (int calls = 0; calls < CALLS - 70; calls += 4) {
            switch (random.nextInt(8)) {
                case 0: case 1:
                    calls += sayYears();
                    years();
                    calls += 7;
                    break;
                case 2: case 3: change(); break;
                case 4: sights(); break;
                case 5: images(); break;
                case 6:
                    int what = some(0, 1);
                    if (m.deckIsSmall()) {
                        due("longest(" + what + ")", x.longest(what), m.longest(what));
                        due("deck()", x.deck(), m.deck());
                    }
                    pairs();
                    break;
                default: games();
            }
            int what = some(0, 282);
            due("told(" + what + ")", x.told(what), m.told(what));
        }
        return wrong;
    }

    public static void main(String[] args) {
        int wrong = 0;
        for (int run = 0; run < RUNS && wrong < 20; run++) wrong += new DriftKinAgainstModel(run).play();
        System.out.println(wrong == 0 ? "all answers are as the model's" : wrong + " answers are not as the model's");
        if (wrong != 0) System.exit(1);
    }
}
