/** Driftwood's kin: pieces, the houses that are of them, and the years told of both. */
public final class DriftKin {
    public static final int NONE = -6, UNKNOWN = -1, OUTSIDE = -2, STATE = -3, FULL = -4, NO = -5;
    public static final long LOST = -1000000000000000000L;

    private static final int PIECES = 10, HOUSES = 8, SIGNS = 60, SIGHTS = 8;
    private static final int WRECKS = 10, WOODS = 4, LONGEST = 20, DIGITS = 8, LAST_ROW = 99999999;
    private static final int MOST_CHILDREN = 99, LAST_YEAR = 99, FARTHEST_SHIFT = 5;
    private static final int SEA = 0, ASHORE = 1, HOME = 2, BURNT = 3;

    private final Shore now = new Shore();
    private final Shore firstImage = new Shore();
    private final Shore secondImage = new Shore();
    private boolean firstKept = false;
    private boolean secondKept = false;
    private final Pad pad = new Pad();
    private final Years years = new Years();
    private final Planks planks = new Planks();
    private final Matches matches = new Matches();

    public DriftKin() {
    }

    // ---- 1 pieces, houses, years

    public int piece(int piece, int wreck, int wood, int length) {
        if (!isPiece(piece)) return UNKNOWN;
        if (!within(wreck, 0, WRECKS - 1) || !within(wood, 0, WOODS - 1) || !within(length, 1, LONGEST)) return OUTSIDE;
        int before = at(now.pieces.length, piece);
        put(now.pieces.wreck, piece, wreck);
        put(now.pieces.wood, piece, wood);
        put(now.pieces.length, piece, length);
        return before;
    }

    public int ends(int piece, int left, int right) {
        if (!isPiece(piece)) return UNKNOWN;
        if (!within(left, 0, 9) || !within(right, 0, 9)) return OUTSIDE;
        int before = 10 * at(now.pieces.left, piece) + at(now.pieces.right, piece);
        put(now.pieces.left, piece, left);
        put(now.pieces.right, piece, right);
        return before;
    }

    public int rings(int piece, int row) {
        if (!isPiece(piece)) return UNKNOWN;
        if (!within(row, 0, LAST_ROW)) return OUTSIDE;
        int before = at(now.pieces.rings, piece);
        put(now.pieces.rings, piece, row);
        return before;
    }

    public int say(int sign) {
        if (!within(sign, 33, 126)) return OUTSIDE;
        if (pad.count >= SIGNS) return FULL;
        put(pad.signs, pad.count, sign);
        pad.count++;
        return pad.count;
    }

    public int wipe() {
        int before = pad.count;
        pad.count = 0;
        return before;
    }

    public int fault() {
        return pad.firstWrong();
    }

    // ---- 2 years

    public int judge(int what) {
        if (!within(what, 0, 1)) return OUTSIDE;
        if (pad.firstWrong() != NONE) return NO;
        years.tell(pad, now);
        if (years.why == 0) return NONE;
        return what == 0 ? years.acts : years.why;
    }

    public int done() {
        if (!yearsStand()) return NO;
        now.become(years.end);
        pad.count = 0;
        return years.acts;
    }

    public int where(int piece) {
        if (!isPiece(piece)) return UNKNOWN;
        if (!yearsStand()) return NO;
        return at(years.end.pieces.place, piece);
    }

    public int behind(int house, int what) {
        if (!isHouse(house)) return UNKNOWN;
        if (!within(what, 0, 2)) return OUTSIDE;
        if (!yearsStand()) return NO;
        return years.end.houses.detail(house, what);
    }

    public int then(int what) {
        if (!within(what, 0, 2)) return OUTSIDE;
        if (!yearsStand()) return NO;
        if (what == 0) return years.end.pieces.bitsAt(ASHORE);
        return what == 1 ? years.weddings : years.end.year;
    }

    /** Tells the pad to a copy of the shore; whether nothing on it is wrong or can not be. */
    private boolean yearsStand() {
        if (pad.firstWrong() != NONE) return false;
        years.tell(pad, now);
        return years.why == 0;
    }

    // ---- 3 planks, rings, matches

    public int longest(int what) {
        if (!within(what, 0, 1)) return OUTSIDE;
        planks.lay(now.pieces);
        int bits = planks.longestBits(now.pieces);
        return what == 0 ? now.pieces.lengthOf(bits) : bits;
    }

    public int deck() {
        planks.lay(now.pieces);
        return at(planks.fewest, now.pieces.bitsNotBurnt());
    }

    public int same(int one, int other, int s) {
        if (!isPiece(one) || !isPiece(other)) return UNKNOWN;
        if (!within(s, -FARTHEST_SHIFT, FARTHEST_SHIFT)) return OUTSIDE;
        return alike(at(now.pieces.rings, one), at(now.pieces.rings, other), s);
    }

    public int lie(int one, int other, int what) {
        if (!isPiece(one) || !isPiece(other)) return UNKNOWN;
        if (!within(what, 0, 1)) return OUTSIDE;
        int most = -1;
        int leastShift = 0;
        for (int s = -FARTHEST_SHIFT; s <= FARTHEST_SHIFT; s++) {
            int count = alike(at(now.pieces.rings, one), at(now.pieces.rings, other), s);
            if (count > most) {
                most = count;
                leastShift = s;
            }
        }
        return what == 0 ? most : leastShift + FARTHEST_SHIFT;
    }

    public int match(int house) {
        if (house != -1 && !isHouse(house)) return UNKNOWN;
        matches.find(now);
        return house == -1 ? matches.count : at(matches.mate, house);
    }

    // ---- 4 the wheel, sawing, gales

    public int heard(int house, int d, boolean is) {
        if (!isHouse(house)) return UNKNOWN;
        if (!within(d, 0, HOUSES - 1)) return OUTSIDE;
        if (now.sights.count >= SIGHTS) return FULL;
        now.sights.add(house, d, is);
        return now.sights.count;
    }

    public int forget() {
        int before = now.sights.count;
        now.sights.count = 0;
        return before;
    }

    public int wheel() {
        return now.sights.bitsLeft();
    }

    public int ask(int what) {
        if (!within(what, 0, 1)) return OUTSIDE;
        int left = now.sights.bitsLeft();
        if (left == 0) return NONE;
        int fewest = HOUSES + 1;
        int best = 0;
        for (int house = 0; house < HOUSES; house++) {
            for (int d = 0; d < HOUSES; d++) {
                int near = bitsNear(house, d);
                int most = Math.max(Integer.bitCount(left & near), Integer.bitCount(left & ~near));
                if (most < fewest) {
                    fewest = most;
                    best = 10 * house + d;
                }
            }
        }
        return what == 0 ? best : fewest;
    }

    public int saw(int k, int what) {
        if (!within(k, 1, 9) || !within(what, 0, 1)) return OUTSIDE;
        int cut = firstWinningCut(k);
        if (what == 0) return cut == NONE ? 0 : 1;
        return cut;
    }

    public long soon(int t, int n, int what, int part) {
        if (!within(t, 0, 10) || !within(what, 0, 2) || !within(part, 0, 1)) return LOST + OUTSIDE;
        if (!within(n, 0, what == 0 ? 15 : 8)) return LOST + OUTSIDE;
        long all = power(10, n);
        long missed = power(10 - t, n);
        long upper = all - missed;
        long lower = all;
        if (what == 1) upper = all * all - missed * missed;
        if (what == 2) upper = upper * upper;
        if (what != 0) lower = all * all;
        long shared = greatestDivisor(upper, lower);
        if (shared <= 0) return part == 0 ? upper : lower;
        return part == 0 ? upper / shared : lower / shared;
    }

    public int book(int seed, int m, int what) {
        if (!within(seed, 0, 9999) || !within(m, 1, 99) || !within(what, 0, 2)) return OUTSIDE;
        years.draw(seed, m, now);
        if (what == 0) return years.end.houses.countOfPieces();
        return what == 1 ? years.end.houses.allChildren() : years.weddings;
    }

    public int image(int n) {
        if (!within(n, 0, 1)) return OUTSIDE;
        if (n == 0) {
            firstImage.become(now);
            firstKept = true;
        } else {
            secondImage.become(now);
            secondKept = true;
        }
        return 1;
    }

    public int restore(int n) {
        if (!within(n, 0, 1)) return OUTSIDE;
        if (n == 0 ? !firstKept : !secondKept) return STATE;
        now.become(n == 0 ? firstImage : secondImage);
        return 1;
    }

    public int told(int what) {
        if (what == 0) return pad.count;
        if (what == 1) return now.year;
        if (what == 2) return now.sights.count;
        int kind = what % 10;
        if (within(what, 10, 10 * PIECES + 9) && kind <= 6) return now.pieces.detail(what / 10 - 1, kind);
        if (within(what, 200, 200 + 10 * HOUSES - 1) && kind <= 2) return now.houses.detail(what / 10 - 20, kind);
        return OUTSIDE;
    }

    // ---- numbers and rows

    private static boolean within(int number, int least, int most) {
        return number >= least && number <= most;
    }

    private static boolean isPiece(int piece) {
        return within(piece, 0, PIECES - 1);
    }

    private static boolean isHouse(int house) {
        return within(house, 0, HOUSES - 1);
    }

    private static boolean has(int bits, int i) {
        return (bits >> i & 1) != 0;
    }

    private static int at(int[] row, int i) {
        return i >= 0 && i < row.length ? row[i] : 0;
    }

    private static void put(int[] row, int i, int value) {
        if (i >= 0 && i < row.length) row[i] = value;
    }

    private static void fill(int[] row, int value) {
        for (int i = 0; i < row.length; i++) row[i] = value;
    }

    private static void copy(int[] from, int[] to) {
        for (int i = 0; i < to.length && i < from.length; i++) to[i] = from[i];
    }

    // ---- rings

    /** Digit 0 is the highest of the eight. */
    private static int digit(int row, int i) {
        int rest = row;
        for (int k = i; k < DIGITS - 1; k++) rest /= 10;
        return rest % 10;
    }

    private static int alike(int first, int second, int shift) {
        int count = 0;
        for (int i = 0; i < DIGITS; i++) {
            int j = i - shift;
            if (within(j, 0, DIGITS - 1) && digit(first, i) == digit(second, j)) count++;
        }
        return count;
    }

    // ---- the wheel

    private static int bitsNear(int house, int d) {
        int bits = 0;
        for (int h = 0; h < HOUSES; h++) {
            if (Math.abs(h - house) <= d) bits |= 1 << h;
        }
        return bits;
    }

    // ---- sawing

    /** 100 times the piece and how much, the least by which the other one is left without a way to win. */
    private int firstWinningCut(int k) {
        int sum = 0;
        for (int piece = 0; piece < PIECES; piece++) sum ^= worth(piece, 0, k);
        for (int piece = 0; piece < PIECES; piece++) {
            if (at(now.pieces.place, piece) != ASHORE) continue;
            int others = sum ^ worth(piece, 0, k);
            for (int much = 1; much <= k && much <= at(now.pieces.length, piece); much++) {
                if (worth(piece, much, k) == others) return 100 * piece + much;
            }
        }
        return NONE;
    }

    /** A piece from which 1 to k are sawn is a heap of what is left over by k and 1; nothing, when it is not ashore. */
    private int worth(int piece, int sawn, int k) {
        if (at(now.pieces.place, piece) != ASHORE || k < 1) return 0;
        return (at(now.pieces.length, piece) - sawn) % (k + 1);
    }

    // ---- gales

    private static long power(int base, int exponent) {
        long product = 1;
        for (int i = 0; i < exponent; i++) product *= base;
        return product;
    }

    private static long greatestDivisor(long one, long other) {
        long a = one;
        long b = other;
        // Two numbers of 64 bits need fewer than 100 steps.
        for (int i = 0; i < 100 && b != 0; i++) {
            long rest = a % b;
            a = b;
            b = rest;
        }
        return a;
    }

    /** The ten pieces, a row for each thing that is told of them. */
    private static final class Pieces {
        final int[] wreck = new int[PIECES];
        final int[] wood = new int[PIECES];
        final int[] length = new int[PIECES];
        final int[] left = new int[PIECES];
        final int[] right = new int[PIECES];
        final int[] place = new int[PIECES];
        final int[] rings = new int[PIECES];

        Pieces() {
            fill(length, 1);
            for (int i = 0; i < wreck.length; i++) wreck[i] = i;
        }

        void become(Pieces other) {
            copy(other.wreck, wreck);
            copy(other.wood, wood);
            copy(other.length, length);
            copy(other.left, left);
            copy(other.right, right);
            copy(other.place, place);
            copy(other.rings, rings);
        }

        int detail(int piece, int kind) {
            switch (kind) {
                case 0: return at(wreck, piece);
                case 1: return at(wood, piece);
                case 2: return at(length, piece);
                case 3: return at(left, piece);
                case 4: return at(right, piece);
                case 5: return at(place, piece);
                default: return at(rings, piece);
            }
        }

        int bitsAt(int where) {
            int bits = 0;
            for (int i = 0; i < place.length; i++) {
                if (place[i] == where) bits |= 1 << i;
            }
            return bits;
        }

        int bitsNotBurnt() {
            return (1 << PIECES) - 1 & ~bitsAt(BURNT);
        }

        int lengthOf(int bits) {
            int sum = 0;
            for (int i = 0; i < length.length; i++) {
                if (has(bits, i)) sum += length[i];
            }
            return sum;
        }

        boolean joins(int one, int next) {
            return one != next && at(wood, one) == at(wood, next) && at(right, one) == at(left, next);
        }
    }

    /** The eight houses, a row for each thing that is told of them. */
    private static final class Houses {
        final int[] piece = new int[HOUSES];
        final int[] partner = new int[HOUSES];
        final int[] children = new int[HOUSES];

        Houses() {
            fill(piece, NONE);
            fill(partner, NONE);
        }

        void become(Houses other) {
            copy(other.piece, piece);
            copy(other.partner, partner);
            copy(other.children, children);
        }

        int detail(int house, int kind) {
            if (kind == 0) return at(piece, house);
            return kind == 1 ? at(partner, house) : at(children, house);
        }

        boolean isOfNone(int house) {
            return at(piece, house) == NONE;
        }

        boolean isWed(int house) {
            return at(partner, house) != NONE;
        }

        int countOfPieces() {
            int count = 0;
            for (int i = 0; i < piece.length; i++) {
                if (piece[i] != NONE) count++;
            }
            return count;
        }

        int allChildren() {
            int sum = 0;
            for (int i = 0; i < children.length; i++) sum += children[i];
            return sum;
        }
    }

    /** Where the wheel was heard, or was not. */
    private static final class Sights {
        final int[] house = new int[SIGHTS];
        final int[] reach = new int[SIGHTS];
        final int[] sounded = new int[SIGHTS];
        int count = 0;

        void become(Sights other) {
            copy(other.house, house);
            copy(other.reach, reach);
            copy(other.sounded, sounded);
            count = other.count;
        }

        void add(int atHouse, int d, boolean is) {
            put(house, count, atHouse);
            put(reach, count, d);
            put(sounded, count, is ? 1 : 0);
            count++;
        }

        int bitsLeft() {
            int bits = (1 << HOUSES) - 1;
            for (int i = 0; i < count; i++) {
                int near = bitsNear(at(house, i), at(reach, i));
                bits &= at(sounded, i) == 1 ? near : ~near;
            }
            return bits;
        }
    }

    /** All but the pad. Each act changes it and answers 0, or answers why it can not be. */
    private static final class Shore {
        final Pieces pieces = new Pieces();
        final Houses houses = new Houses();
        final Sights sights = new Sights();
        int year = 0;

        void become(Shore other) {
            pieces.become(other.pieces);
            houses.become(other.houses);
            sights.become(other.sights);
            year = other.year;
        }

        int comeIn(int piece) {
            if (at(pieces.place, piece) != SEA) return 1;
            put(pieces.place, piece, ASHORE);
            return 0;
        }

        int takeHome(int house, int piece) {
            if (at(pieces.place, piece) != ASHORE) return 1;
            if (!houses.isOfNone(house)) return 2;
            put(pieces.place, piece, HOME);
            put(houses.piece, house, piece);
            return 0;
        }

        int marry(int one, int other) {
            if (houses.isOfNone(one) || houses.isOfNone(other)) return 2;
            if (one == other) return 3;
            if (houses.isWed(one) || houses.isWed(other)) return 4;
            if (wreckOf(one) == wreckOf(other)) return 5;
            put(houses.partner, one, other);
            put(houses.partner, other, one);
            return 0;
        }

        int part(int house) {
            if (!houses.isWed(house)) return 4;
            put(houses.partner, at(houses.partner, house), NONE);
            put(houses.partner, house, NONE);
            return 0;
        }

        int burn(int house) {
            if (houses.isOfNone(house)) return 2;
            put(pieces.place, at(houses.piece, house), BURNT);
            put(houses.piece, house, NONE);
            return 0;
        }

        int passYear() {
            if (year >= LAST_YEAR) return 6;
            year++;
            for (int house = 0; house < HOUSES; house++) {
                int grown = at(houses.children, house) + 1;
                if (houses.isWed(house) && grown <= MOST_CHILDREN) put(houses.children, house, grown);
            }
            return 0;
        }

        int wreckOf(int house) {
            return at(pieces.wreck, at(houses.piece, house));
        }

        boolean mightWed(int one, int other) {
            return isFree(one) && isFree(other) && wreckOf(one) != wreckOf(other);
        }

        boolean isFree(int house) {
            return !houses.isOfNone(house) && !houses.isWed(house);
        }
    }

    /** The signs of the years that are told. */
    private static final class Pad {
        private static final int ACT = 0, DEED = 1, PARTNER = 2, WRONG = 3;

        final int[] signs = new int[SIGNS];
        int count = 0;

        int firstWrong() {
            int due = ACT;
            for (int i = 0; i < count; i++) {
                due = dueAfter(due, at(signs, i));
                if (due == WRONG) return i;
            }
            return due == ACT ? NONE : count;
        }

        static int dueAfter(int due, int sign) {
            if (due == ACT) {
                if (isHouseSign(sign)) return DEED;
                return isPieceSign(sign) || sign == '.' ? ACT : WRONG;
            }
            if (due == DEED) {
                if (sign == '+') return PARTNER;
                return isPieceSign(sign) || sign == '-' || sign == '*' ? ACT : WRONG;
            }
            return isHouseSign(sign) ? ACT : WRONG;
        }

        static boolean isPieceSign(int sign) {
            return isPiece(sign - '0');
        }

        static boolean isHouseSign(int sign) {
            return isHouse(sign - 'A');
        }
    }

    /** Years that are told or drawn, on a shore of their own, so that nothing is done in fact. */
    private static final class Years {
        final Shore end = new Shore();
        int acts = 0;
        int why = 0;
        int weddings = 0;

        void begin(Shore from) {
            end.become(from);
            acts = 0;
            why = 0;
            weddings = 0;
        }

        /** Stops at the first act that can not be: it is the one numbered as many as were done before it. */
        void tell(Pad pad, Shore from) {
            begin(from);
            int place = 0;
            for (int i = 0; i < SIGNS && place < pad.count; i++) {
                int sign = at(pad.signs, place);
                int deed = at(pad.signs, place + 1);
                if (!Pad.isHouseSign(sign)) {
                    why = sign == '.' ? end.passYear() : end.comeIn(sign - '0');
                    place++;
                } else if (deed == '+') {
                    why = wed(sign - 'A', at(pad.signs, place + 2) - 'A');
                    place += 3;
                } else {
                    why = homeAct(sign - 'A', deed);
                    place += 2;
                }
                if (why != 0) return;
                acts++;
            }
        }

        int homeAct(int house, int deed) {
            if (deed == '-') return end.part(house);
            return deed == '*' ? end.burn(house) : end.takeHome(house, deed - '0');
        }

        int wed(int one, int other) {
            int reason = end.marry(one, other);
            if (reason == 0) weddings++;
            return reason;
        }

        /** What can not be is passed over, but its draw counts. */
        void draw(int seed, int m, Shore from) {
            begin(from);
            int x = seed;
            for (int i = 0; i < m; i++) {
                x = (75 * x + 74) % 65537;
                drawnAct(x % 8, x / 8 % PIECES, x / 8 % HOUSES, x / 64 % HOUSES);
            }
        }

        void drawnAct(int kind, int piece, int first, int second) {
            switch (kind) {
                case 0:
                case 1:
                    end.comeIn(piece);
                    break;
                case 2:
                case 3:
                    end.takeHome(second, piece);
                    break;
                case 4:
                    wed(first, second);
                    break;
                case 5:
                    end.part(first);
                    break;
                case 6:
                    end.burn(first);
                    break;
                default:
                    end.passYear();
                    break;
            }
        }
    }

    /** For each set of pieces (as bits): the fewest planks of it, and the pieces that the last of so few can end with. */
    private static final class Planks {
        final int[] before = new int[PIECES];
        final int[] fewest = new int[1 << PIECES];
        final int[] lasts = new int[1 << PIECES];
        int usable = 0;

        void lay(Pieces pieces) {
            // Calls for the same planks come together: what was laid last stands until a joint or a burning changes it.
            boolean stands = usable == pieces.bitsNotBurnt();
            usable = pieces.bitsNotBurnt();
            for (int next = 0; next < before.length; next++) {
                int bits = joinedBy(pieces, next);
                if (before[next] != bits) stands = false;
                before[next] = bits;
            }
            for (int set = 1; set < fewest.length && !stands; set++) {
                if ((set & ~usable) == 0) layLast(set);
            }
        }

        static int joinedBy(Pieces pieces, int next) {
            int bits = 0;
            for (int one = 0; one < PIECES; one++) {
                if (pieces.joins(one, next)) bits |= 1 << one;
            }
            return bits;
        }

        /**
         * The sets without one piece are laid already. To lay them with more planks than the fewest
         * never helps: a plank of its own for the last piece costs no more.
         */
        void layLast(int set) {
            int least = PIECES + 1;
            int ends = 0;
            for (int last = 0; last < PIECES; last++) {
                if (!has(set, last)) continue;
                int rest = set ^ 1 << last;
                boolean joined = (at(lasts, rest) & at(before, last)) != 0;
                int count = at(fewest, rest) + (joined ? 0 : 1);
                if (count < least) {
                    least = count;
                    ends = 0;
                }
                if (count == least) ends |= 1 << last;
            }
            put(fewest, set, least);
            put(lasts, set, ends);
        }

        int longestBits(Pieces pieces) {
            int best = 0;
            int most = 0;
            for (int set = 1; set < fewest.length; set++) {
                if ((set & ~usable) != 0 || fewest[set] != 1) continue;
                int length = pieces.lengthOf(set);
                if (length > most) {
                    most = length;
                    best = set;
                }
            }
            return best;
        }
    }

    /** The most weddings that can be at once, for each set of houses (as bits), and the first such way for all. */
    private static final class Matches {
        final int[] might = new int[HOUSES];
        final int[] most = new int[1 << HOUSES];
        final int[] mate = new int[HOUSES];
        int count = 0;

        void find(Shore shore) {
            for (int one = 0; one < might.length; one++) {
                int bits = 0;
                for (int other = 0; other < HOUSES; other++) {
                    if (shore.mightWed(one, other)) bits |= 1 << other;
                }
                might[one] = bits;
            }
            for (int set = 1; set < most.length; set++) most[set] = mostOf(set);
            int left = most.length - 1;
            count = at(most, left);
            fill(mate, NONE);
            for (int house = 0; house < HOUSES; house++) {
                if (has(left, house)) left = settle(left, house);
            }
        }

        int mostOf(int set) {
            int first = lowest(set);
            int rest = set & ~(1 << first);
            int best = at(most, rest);
            for (int other = 0; other < HOUSES; other++) {
                if (has(rest & at(might, first), other)) best = Math.max(best, 1 + at(most, rest ^ 1 << other));
            }
            return best;
        }

        static int lowest(int set) {
            for (int house = 0; house < HOUSES; house++) {
                if (has(set, house)) return house;
            }
            return 0;
        }

        /** Weds the first house of those left as told, or to none; who is left then. */
        int settle(int left, int house) {
            int rest = left ^ 1 << house;
            for (int other = 0; other < HOUSES; other++) {
                if (!has(rest & at(might, house), other)) continue;
                if (1 + at(most, rest ^ 1 << other) < at(most, left)) continue;
                put(mate, house, other);
                put(mate, other, house);
                return rest ^ 1 << other;
            }
            return rest;
        }
    }
}
