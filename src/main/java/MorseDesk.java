import java.util.Arrays;

/**
 * Simplicial complexes of at most 60 simplices, made small by acyclic matching.
 *
 * A set of simplices is a long throughout: bit k stands for the simplex with number k. All rows are
 * made once, in constructors, so that no call makes an object.
 */
public final class MorseDesk {
    public static final int NONE = -1;

    private static final int REFUSED = -2;

    // The least int and the least long, by hand: of the library only functions are listed, not its constants.
    private static final int NO_INT = 0x80000000;
    private static final long NO_LONG = 0x8000000000000000L;

    private static final int MOST_BYTES = 160;
    private static final int FEED_BYTES = 20;
    private static final int MOST_FACETS = 24;
    private static final int MOST_LETTERS = 5;
    private static final int MOST_SIMPLICES = 60;
    private static final int DIMS = 5;
    private static final int LETTERS = 8;
    private static final int LETTER_SETS = 256;
    private static final int MOST_UNDO = 16;
    private static final int KEEPS = 3;
    private static final int MOST_DRAWN = 40;

    // One place for each bit of a long: an index that comes from a bit is always inside.
    private static final int SLOTS = 64;

    // Rows and columns together are at most 60, so they never need more cells than 30 by 30.
    private static final int MOST_CELLS = 900;

    // Each round at least halves the pivot, so 64 would do.
    private static final int MOST_ROUNDS = 1000;

    private static final int FAULT_BYTE = 1;
    private static final int FAULT_TWICE = 2;
    private static final int FAULT_SIXTH = 3;
    private static final int FAULT_FACETS = 4;
    private static final int FAULT_SIMPLICES = 5;

    private final Tape tape;
    private final Reader reader;
    private final Shape shape;
    private final Pairs pairs;
    private final Peel peel;
    private final Heights heights;
    private final Flow flow;
    private final Boundary boundary;
    private final History history;
    private final Kept kept;
    private int x;

    public MorseDesk() {
        tape = new Tape();
        reader = new Reader();
        shape = new Shape();
        pairs = new Pairs(shape);
        peel = new Peel(shape);
        heights = new Heights(shape, pairs);
        flow = new Flow(shape, pairs, heights);
        boundary = new Boundary(shape, flow);
        history = new History();
        kept = new Kept();
    }

    public int feed(int a, int b, int c, int d, int e) {
        if (tape.size + FEED_BYTES > MOST_BYTES) {
            return NONE;
        }
        tape.append(a);
        tape.append(b);
        tape.append(c);
        tape.append(d);
        tape.append(e);
        return tape.size;
    }

    public int end(int n) {
        if (n < 0 || n > tape.size) {
            return NONE;
        }
        tape.size = n;
        return n;
    }

    public int complex() {
        int fault = reader.read(tape);
        tape.size = 0;
        if (fault != 0) {
            return REFUSED - fault;
        }
        shape.build(reader.told);
        pairs.restart(shape.all());
        history.size = 0;
        kept.forget();
        return shape.size;
    }

    public int simplex(int k, int what) {
        if (!shape.has(k)) {
            return NONE;
        }
        switch (what) {
            case 0:
                return shape.letters[k];
            case 1:
                return shape.dims[k];
            case 2:
                return isThere(k) ? 1 : 0;
            case 3:
                return pairs.partner[k];
            case 4:
                return pairs.side(k);
            case 5:
                return heights.of(k);
            case 6:
                return Long.bitCount(shape.cofaces[k] & pairs.there);
            default:
                return NONE;
        }
    }

    public int number(int letters) {
        if (letters < 0 || letters >= LETTER_SETS) {
            return NONE;
        }
        return shape.numbers[letters];
    }

    public int sign(int face, int simplex) {
        if (!shape.has(face) || !shape.has(simplex)) {
            return NO_INT;
        }
        return shape.signOf(face, simplex);
    }

    public int pair(int face, int simplex) {
        if (!isThere(face) || !isThere(simplex) || !isIn(shape.faces[simplex], face)) {
            return NONE;
        }
        if (!pairs.isCritical(face) || !pairs.isCritical(simplex)) {
            return NONE;
        }
        if (!pairs.staysAcyclic(face, simplex)) {
            return REFUSED;
        }
        history.save(pairs);
        pairs.unite(face, simplex);
        return criticalOnes();
    }

    public int part(int k) {
        if (!isThere(k) || pairs.partner[k] == NONE) {
            return NONE;
        }
        history.save(pairs);
        pairs.divide(k);
        return criticalOnes();
    }

    public int auto(int how) {
        if (how < 0 || how > 2 || shape.size == 0) {
            return NONE;
        }
        history.save(pairs);
        pairs.restart(pairs.there);
        if (how == 0) {
            pairUpwards();
        } else if (how == 1) {
            pairDownwards();
        } else {
            pairByPeeling();
        }
        return criticalOnes();
    }

    public int cancel(int from, int to) {
        if (!areEnds(from, to)) {
            return NONE;
        }
        if (flow.countWays(from, to) != 1L) {
            return REFUSED;
        }
        history.save(pairs);
        int length = flow.trace(from, to, 0L);
        for (int i = 1; i + 1 < length; i += 2) {
            pairs.divide(flow.row[i]);
        }
        for (int i = 1; i < length; i += 2) {
            pairs.unite(flow.row[i], flow.row[i - 1]);
        }
        return criticalOnes();
    }

    public int collapse(int face) {
        if (!isThere(face)) {
            return NONE;
        }
        if (!isFree(face)) {
            return REFUSED;
        }
        history.save(pairs);
        int whole = lowest(shape.cofaces[face] & pairs.there);
        pairs.drop(face);
        pairs.drop(whole);
        return Long.bitCount(pairs.there);
    }

    public int undo() {
        if (history.size == 0) {
            return NONE;
        }
        history.restore(pairs);
        return history.size;
    }

    public int critical(int dim, int k) {
        if (!isDim(dim) || k < NONE) {
            return NONE;
        }
        return listed(pairs.unpaired() & shape.ofDim[dim], k);
    }

    public long paths(int from, int to) {
        if (!areEnds(from, to)) {
            return NONE;
        }
        return flow.countWays(from, to);
    }

    public int path(int from, int to, int k, int i) {
        if (!areEnds(from, to) || k < 0 || i < NONE) {
            return NONE;
        }
        if (k >= flow.countWays(from, to)) {
            return REFUSED;
        }
        int length = flow.trace(from, to, k);
        if (i == NONE) {
            return length;
        }
        return i < length ? flow.row[i] : REFUSED;
    }

    public long incidence(int from, int to) {
        if (!areEnds(from, to)) {
            return NO_LONG;
        }
        flow.start(from);
        flow.pour(shape.dims[from], true);
        return flow.value[to];
    }

    public long chain(int critical, int k) {
        if (!isThere(critical) || !isThere(k) || !pairs.isCritical(critical)) {
            return NO_LONG;
        }
        if (shape.dims[critical] != shape.dims[k]) {
            return NO_LONG;
        }
        // What comes down from the critical one to f and up to k is just what the CHAIN has of k.
        flow.start(critical);
        flow.pour(shape.dims[critical], true);
        return flow.value[k];
    }

    public int root(int k, int what) {
        if (!isThere(k) || shape.dims[k] != 0 || what < 0 || what > 1) {
            return NONE;
        }
        int at = k;
        int between = 0;
        for (int step = 0; step < MOST_SIMPLICES && pairs.partner[at] != NONE; step++) {
            long ends = shape.faces[pairs.partner[at]] & ~bit(at);
            at = lowest(ends);
            between++;
        }
        return what == 0 ? at : between;
    }

    public long through(int from, int to, int k) {
        if (!areEnds(from, to) || !isThere(k)) {
            return NONE;
        }
        flow.start(from);
        flow.pour(shape.dims[from], false);
        flow.countWays(from, to);
        return flow.value[k] * flow.ways[k];
    }

    public int squares() {
        int wrong = 0;
        long from = pairs.unpaired();
        for (int k = 0; k < shape.size; k++) {
            if (isIn(from, k) && shape.dims[k] >= 2) {
                wrong += squaresFrom(k);
            }
        }
        return wrong;
    }

    public int betti(int dim, int which) {
        if (!isDim(dim) || which < 0 || which > 1) {
            return NONE;
        }
        return boundary.bettiOf(basis(which), dim, which == 1);
    }

    public long torsion(int dim, int k, int which) {
        if (!isDim(dim) || which < 0 || which > 1 || k < NONE) {
            return NONE;
        }
        int found = boundary.torsionsOf(basis(which), dim, which == 1);
        if (k == NONE) {
            return found;
        }
        return k < found ? boundary.torsions[k] : REFUSED;
    }

    public int slack(int dim) {
        if (!isDim(dim)) {
            return NO_INT;
        }
        int sum = 0;
        for (int d = 0; d <= dim; d++) {
            int left = Long.bitCount(pairs.unpaired() & shape.ofDim[d]);
            sum = left - boundary.bettiOf(pairs.there, d, false) - sum;
        }
        return sum;
    }

    public int free(int k) {
        if (k < NONE) {
            return NONE;
        }
        long found = 0L;
        for (int face = 0; face < shape.size; face++) {
            if (isThere(face) && isFree(face)) {
                found |= bit(face);
            }
        }
        return listed(found, k);
    }

    public int facet(int k) {
        if (k < NONE) {
            return NONE;
        }
        long found = 0L;
        for (int top = 0; top < shape.size; top++) {
            if (isThere(top) && (shape.cofaces[top] & pairs.there) == 0L) {
                found |= bit(top);
            }
        }
        return listed(found, k);
    }

    public int link(int k, int what) {
        if (!isThere(k) || what < 0 || what > 1) {
            return NO_INT;
        }
        long found = linkOf(k);
        return what == 0 ? Long.bitCount(found) : shape.eulerOf(found);
    }

    public int room(int dim) {
        if (!isDim(dim)) {
            return NONE;
        }
        int found = 0;
        long lone = pairs.unpaired();
        for (int face = 0; face < shape.size; face++) {
            if (isIn(lone, face) && shape.dims[face] == dim) {
                found += roomAbove(face, shape.cofaces[face] & lone);
            }
        }
        return found;
    }

    public int draws(int x) {
        if (x < 0) {
            return NONE;
        }
        int before = this.x;
        this.x = x;
        return before;
    }

    public int drawn(int m, int what) {
        if (m < 1 || m > MOST_DRAWN || what < 0 || what > 2 || shape.size == 0) {
            return NONE;
        }
        int before = x;
        int fewest = SLOTS;
        int often = 0;
        int most = 0;
        for (int i = 0; i < m; i++) {
            int left = peelByDraws();
            most = Math.max(most, left);
            if (left < fewest) {
                fewest = left;
                often = 0;
            }
            if (left == fewest) {
                often++;
            }
        }
        x = before;
        if (what == 0) {
            return fewest;
        }
        return what == 1 ? often : most;
    }

    public int level(int h, int what) {
        if (h < 0 || what < 0 || what > 1) {
            return NONE;
        }
        long low = heights.upTo(h);
        return what == 0 ? Long.bitCount(low) : shape.eulerOf(low);
    }

    public int levelBetti(int h, int dim) {
        if (h < 0 || !isDim(dim)) {
            return NONE;
        }
        return boundary.bettiOf(shape.withFaces(heights.upTo(h)), dim, false);
    }

    public int keep(int k) {
        if (k < 0 || k >= KEEPS || shape.size == 0) {
            return NONE;
        }
        kept.store(k, pairs);
        return pairs.howMany();
    }

    public int same(int k) {
        if (k < 0 || k >= KEEPS) {
            return NONE;
        }
        if (!isIn(kept.filled, k)) {
            return REFUSED;
        }
        return kept.shared(k, pairs);
    }

    public int count(int what) {
        switch (what) {
            case 0:
                return shape.size;
            case 1:
                return Long.bitCount(pairs.there);
            case 2:
                return shape.greatestDim(pairs.there);
            case 3:
                return pairs.howMany();
            case 4:
                return criticalOnes();
            case 5:
                return shape.eulerOf(pairs.there);
            case 6:
                return shape.partsOf(pairs.there);
            case 7:
                return history.size;
            case 8:
                return x;
            case 9:
                return tape.size;
            default:
                return NONE;
        }
    }

    private static boolean isDim(int dim) {
        return dim >= 0 && dim < DIMS;
    }

    private static long bit(int k) {
        return 1L << k;
    }

    private static boolean isIn(long set, int k) {
        return ((set >>> k) & 1L) != 0L;
    }

    /** The least number in a set; the mask keeps it an index even for the empty one. */
    private static int lowest(long set) {
        return Long.bitCount((set & -set) - 1L) & (SLOTS - 1);
    }

    private static int nth(long set, int k) {
        long rest = set;
        for (int i = 0; i < k && rest != 0L; i++) {
            rest &= rest - 1L;
        }
        return lowest(rest);
    }

    /** How every call answers that lists: NONE asks how many. */
    private static int listed(long set, int k) {
        int size = Long.bitCount(set);
        if (k == NONE) {
            return size;
        }
        return k < size ? nth(set, k) : REFUSED;
    }

    private int criticalOnes() {
        return Long.bitCount(pairs.unpaired());
    }

    private long basis(int which) {
        return which == 1 ? pairs.unpaired() : pairs.there;
    }

    /** What is GONE is left out everywhere but where a promise tells of it: most calls ask this first. */
    private boolean isThere(int k) {
        return shape.has(k) && isIn(pairs.there, k);
    }

    private boolean areEnds(int from, int to) {
        if (!isThere(from) || !isThere(to)) {
            return false;
        }
        if (shape.dims[from] != shape.dims[to] + 1) {
            return false;
        }
        return pairs.isCritical(from) && pairs.isCritical(to);
    }

    private boolean isFree(int face) {
        long above = shape.cofaces[face] & pairs.there;
        if (Long.bitCount(above) != 1) {
            return false;
        }
        return (shape.cofaces[lowest(above)] & pairs.there) == 0L;
    }

    private void pairUpwards() {
        for (int face = 0; face < shape.size; face++) {
            long above = pairs.isCritical(face) ? shape.cofaces[face] & pairs.unpaired() : 0L;
            for (int whole = face + 1; whole < shape.size && above != 0L; whole++) {
                if (isIn(above, whole) && pairs.staysAcyclic(face, whole)) {
                    pairs.unite(face, whole);
                    above = 0L;
                }
            }
        }
    }

    private void pairDownwards() {
        for (int whole = shape.size - 1; whole >= 0; whole--) {
            long below = pairs.isCritical(whole) ? shape.faces[whole] & pairs.unpaired() : 0L;
            for (int face = whole - 1; face >= 0 && below != 0L; face--) {
                if (isIn(below, face) && pairs.staysAcyclic(face, whole)) {
                    pairs.unite(face, whole);
                    below = 0L;
                }
            }
        }
    }

    private void pairByPeeling() {
        peel.begin(pairs.there);
        for (int step = 0; step < MOST_SIMPLICES && peel.open != 0L; step++) {
            if (peel.single != 0L) {
                int face = lowest(peel.single);
                int whole = peel.above(face);
                pairs.unite(face, whole);
                peel.close(whole);
                peel.close(face);
            } else {
                peel.close(nth(peel.open, Long.bitCount(peel.open) - 1));
            }
        }
    }

    /** One run of AUTO 2 by DRAWS: how many are left CRITICAL. */
    private int peelByDraws() {
        int left = 0;
        peel.begin(pairs.there);
        for (int step = 0; step < MOST_SIMPLICES && peel.open != 0L; step++) {
            if (peel.single != 0L) {
                int face = drawFrom(peel.single);
                peel.close(peel.above(face));
                peel.close(face);
            } else {
                peel.close(drawFrom(peel.greatest()));
                left++;
            }
        }
        return left;
    }

    private int drawFrom(long set) {
        int size = Long.bitCount(set);
        x = (int) ((x * 1103515245L + 12345L) % 2147483648L);
        return size > 0 ? nth(set, x / 65536 % size) : 0;
    }

    /** How many CRITICAL ones two DIMS below the twofold BOUNDARY of k has other than 0 times. */
    private int squaresFrom(int k) {
        int dim = shape.dims[k];
        if (dim < 2) {
            return 0;
        }
        long middle = pairs.unpaired() & shape.ofDim[dim - 1];
        long last = pairs.unpaired() & shape.ofDim[dim - 2];
        flow.start(k);
        flow.pour(dim, true);
        flow.holdOnly(middle);
        flow.pour(dim - 1, true);
        int found = 0;
        for (int to = 0; to < shape.size; to++) {
            if (isIn(last, to) && flow.value[to] != 0L) {
                found++;
            }
        }
        return found;
    }

    private long linkOf(int k) {
        long found = 0L;
        for (int other = 0; other < shape.size; other++) {
            int joined = shape.letters[k] | shape.letters[other];
            boolean apart = (shape.letters[k] & shape.letters[other]) == 0;
            int whole = number(joined);
            if (apart && isThere(other) && isThere(whole)) {
                found |= bit(other);
            }
        }
        return found;
    }

    private int roomAbove(int face, long above) {
        int found = 0;
        for (int whole = face + 1; whole < shape.size; whole++) {
            if (isIn(above, whole) && pairs.staysAcyclic(face, whole)) {
                found++;
            }
        }
        return found;
    }

    /** The bytes that have come and have not been read. */
    private static final class Tape {
        final int[] bytes = new int[MOST_BYTES];
        int size;

        void append(int four) {
            for (int shift = 24; shift >= 0 && size < MOST_BYTES; shift -= 8) {
                bytes[size] = (four >>> shift) & 255;
                size++;
            }
        }

        int at(int place) {
            return place >= 0 && place < size ? bytes[place] : NONE;
        }
    }

    /** Reads a text; what it tells is taken over only if all of it is right. */
    private static final class Reader {
        final int[] told = new int[LETTER_SETS];
        int simplices;
        int place;

        /** The FAULT, which is never 0; 0 if there is none. */
        int read(Tape text) {
            Arrays.fill(told, 0);
            simplices = 0;
            place = 0;
            for (int facets = 0; facets <= MOST_FACETS; facets++) {
                skipBlanks(text);
                int fault = readFacet(text, facets);
                if (fault != 0) {
                    return fault;
                }
                skipBlanks(text);
                if (place == text.size) {
                    return 0;
                }
                if (text.at(place) != ',') {
                    return fault(place, FAULT_BYTE);
                }
                place++;
            }
            return fault(place, FAULT_FACETS);
        }

        private int readFacet(Tape text, int facetsAhead) {
            int start = place;
            if (!isLetter(text.at(place))) {
                return fault(place, FAULT_BYTE);
            }
            if (facetsAhead == MOST_FACETS) {
                return fault(place, FAULT_FACETS);
            }
            int set = 0;
            while (place < text.size && isLetter(text.at(place))) {
                int letter = 1 << (text.at(place) - 'a');
                if ((set & letter) != 0) {
                    return fault(place, FAULT_TWICE);
                }
                if (Integer.bitCount(set) == MOST_LETTERS) {
                    return fault(place, FAULT_SIXTH);
                }
                set |= letter;
                place++;
            }
            tell(set);
            return simplices > MOST_SIMPLICES ? fault(start, FAULT_SIMPLICES) : 0;
        }

        private void tell(int set) {
            for (int part = 1; part <= set && part < LETTER_SETS; part++) {
                if ((part & ~set) == 0 && told[part] == 0) {
                    told[part] = 1;
                    simplices++;
                }
            }
        }

        private void skipBlanks(Tape text) {
            while (place < text.size && text.at(place) == ' ') {
                place++;
            }
        }

        private static boolean isLetter(int sign) {
            return sign >= 'a' && sign < 'a' + LETTERS;
        }

        private static int fault(int place, int kind) {
            return 8 * place + kind;
        }
    }

    /** The COMPLEX as it was told, whatever is GONE since. */
    private static final class Shape {
        int size;
        final int[] letters = new int[SLOTS];
        final int[] dims = new int[SLOTS];
        final int[] numbers = new int[LETTER_SETS];
        final long[] faces = new long[SLOTS];
        final long[] cofaces = new long[SLOTS];
        final long[] ofDim = new long[DIMS];

        Shape() {
            Arrays.fill(numbers, NONE);
        }

        boolean has(int k) {
            return k >= 0 && k < size;
        }

        long all() {
            return bit(size) - 1L;
        }

        void build(int[] told) {
            size = 0;
            Arrays.fill(numbers, NONE);
            Arrays.fill(faces, 0L);
            Arrays.fill(cofaces, 0L);
            Arrays.fill(ofDim, 0L);
            for (int dim = 0; dim < DIMS; dim++) {
                for (int set = 1; set < LETTER_SETS && set < told.length; set++) {
                    if (told[set] != 0 && Integer.bitCount(set) == dim + 1 && size < MOST_SIMPLICES) {
                        add(set, dim);
                    }
                }
            }
        }

        private void add(int set, int dim) {
            letters[size] = set;
            dims[size] = dim;
            numbers[set] = size;
            ofDim[dim] |= bit(size);
            for (int letter = 0; letter < LETTERS; letter++) {
                int rest = set & ~(1 << letter);
                int face = rest != set ? numbers[rest] : NONE;
                if (face != NONE) {
                    faces[size] |= bit(face);
                    cofaces[face] |= bit(size);
                }
            }
            size++;
        }

        int signOf(int face, int whole) {
            if (!isIn(faces[whole], face)) {
                return 0;
            }
            int leftOut = letters[whole] & ~letters[face];
            int ahead = Integer.bitCount(letters[whole] & (leftOut - 1));
            return (ahead & 1) == 0 ? 1 : -1;
        }

        int eulerOf(long set) {
            int sum = 0;
            for (int dim = 0; dim < DIMS; dim++) {
                int here = Long.bitCount(set & ofDim[dim]);
                sum += (dim & 1) == 0 ? here : -here;
            }
            return sum;
        }

        int greatestDim(long set) {
            int greatest = NONE;
            for (int dim = 0; dim < DIMS; dim++) {
                if ((set & ofDim[dim]) != 0L) {
                    greatest = dim;
                }
            }
            return greatest;
        }

        long withFaces(long set) {
            long closed = set;
            // From the last one down: the FACES that come in are met later, and bring in their own.
            for (int k = size - 1; k >= 0; k--) {
                if (isIn(closed, k)) {
                    closed |= faces[k];
                }
            }
            return closed;
        }

        int partsOf(long set) {
            int parts = 0;
            long rest = set;
            while (rest != 0L && parts < MOST_SIMPLICES) {
                rest &= ~hangingWith(lowest(rest), set);
                parts++;
            }
            return parts;
        }

        private long hangingWith(int k, long set) {
            long found = bit(k);
            long fresh = found;
            for (int step = 0; step < MOST_SIMPLICES && fresh != 0L; step++) {
                int next = lowest(fresh);
                long near = (faces[next] | cofaces[next]) & set & ~found;
                found |= near;
                fresh = (fresh | near) & ~bit(next);
            }
            return found;
        }
    }

    /** Which SIMPLICES are THERE, and the PAIRS among them. */
    private static final class Pairs {
        final Shape shape;
        final int[] partner = new int[SLOTS];
        long there;
        long lower;
        long upper;
        int changes;

        Pairs(Shape shape) {
            this.shape = shape;
            Arrays.fill(partner, NONE);
        }

        void restart(long present) {
            Arrays.fill(partner, NONE);
            there = present;
            lower = 0L;
            upper = 0L;
            changes++;
        }

        void unite(int face, int whole) {
            partner[face] = whole;
            partner[whole] = face;
            lower |= bit(face);
            upper |= bit(whole);
            changes++;
        }

        void divide(int k) {
            int other = partner[k];
            if (other == NONE) {
                return;
            }
            partner[k] = NONE;
            partner[other] = NONE;
            long kept = ~(bit(k) | bit(other));
            lower &= kept;
            upper &= kept;
            changes++;
        }

        void drop(int k) {
            divide(k);
            there &= ~bit(k);
            changes++;
        }

        /** Takes over partners that were saved; the FACE in a PAIR has the lower number. */
        void takeBack(int[] saved, int at, long present) {
            restart(present);
            for (int k = 0; k < SLOTS && at + k < saved.length; k++) {
                int other = saved[at + k];
                if (other > k) {
                    unite(k, other);
                }
            }
        }

        long unpaired() {
            return there & ~(lower | upper);
        }

        boolean isCritical(int k) {
            return isIn(unpaired(), k);
        }

        int howMany() {
            return Long.bitCount(lower);
        }

        int side(int k) {
            if (partner[k] == NONE) {
                return NONE;
            }
            return isIn(lower, k) ? 1 : 0;
        }

        /** The FACES that one may go down to: all but the PARTNER. */
        long below(int k) {
            return partner[k] == NONE ? shape.faces[k] : shape.faces[k] & ~(1L << partner[k]);
        }

        /** All that one may go to: a PARTNER that is a FACE is left out, another one comes in. */
        long steps(int k) {
            return partner[k] == NONE ? shape.faces[k] : shape.faces[k] ^ (1L << partner[k]);
        }

        /** Whether the FACE cannot be come back to from the other one, with the PAIRS as they are. */
        boolean staysAcyclic(int face, int whole) {
            long seen = shape.faces[whole] & ~bit(face);
            long waiting = seen & lower;
            for (int step = 0; step < MOST_SIMPLICES && waiting != 0L; step++) {
                int next = lowest(waiting);
                waiting &= ~bit(next);
                if (partner[next] != NONE) {
                    long fresh = shape.faces[partner[next]] & ~seen;
                    seen |= fresh;
                    waiting |= fresh & lower;
                }
            }
            return !isIn(seen, face);
        }
    }

    /** What is OPEN while a COMPLEX is taken apart, as for AUTO 2. */
    private static final class Peel {
        final Shape shape;
        long open;

        // The OPEN ones that are a FACE of just one OPEN one.
        long single;

        Peel(Shape shape) {
            this.shape = shape;
        }

        void begin(long present) {
            open = present;
            single = 0L;
            lookAgain(present);
        }

        void close(int k) {
            open &= ~bit(k);
            single &= ~bit(k);
            lookAgain(shape.faces[k] & open);
        }

        int above(int face) {
            return lowest(shape.cofaces[face] & open);
        }

        long greatest() {
            int dim = shape.greatestDim(open);
            return isDim(dim) ? open & shape.ofDim[dim] : 0L;
        }

        private void lookAgain(long set) {
            long rest = set;
            for (int step = 0; step < MOST_SIMPLICES && rest != 0L; step++) {
                int face = lowest(rest);
                rest &= rest - 1L;
                if (Long.bitCount(shape.cofaces[face] & open) == 1) {
                    single |= bit(face);
                } else {
                    single &= ~bit(face);
                }
            }
        }
    }

    /** HEIGHTS, and all that is THERE in an order in which no step goes forward. */
    private static final class Heights {
        final Shape shape;
        final Pairs pairs;
        final int[] height = new int[SLOTS];
        final int[] order = new int[SLOTS];
        int ordered;
        int measuredAt;

        Heights(Shape shape, Pairs pairs) {
            this.shape = shape;
            this.pairs = pairs;
            measuredAt = NONE;
        }

        int of(int k) {
            measure();
            return height[k];
        }

        long upTo(int h) {
            measure();
            long found = 0L;
            for (int i = 0; i < ordered; i++) {
                if (height[order[i]] <= h) {
                    found |= bit(order[i]);
                }
            }
            return found;
        }

        /** Of what no step leaves but to what is lower: one HEIGHT after the other. */
        void measure() {
            if (measuredAt == pairs.changes) {
                return;
            }
            measuredAt = pairs.changes;
            Arrays.fill(height, NONE);
            ordered = 0;
            long waiting = pairs.there;
            for (int h = 0; h < SLOTS && waiting != 0L; h++) {
                waiting &= ~give(h, waiting);
            }
        }

        private long give(int h, long waiting) {
            long given = 0L;
            for (int k = 0; k < shape.size && ordered < SLOTS; k++) {
                if (isIn(waiting, k) && (pairs.steps(k) & waiting) == 0L) {
                    given |= bit(k);
                    height[k] = h;
                    order[ordered] = k;
                    ordered++;
                }
            }
            return given;
        }
    }

    /** What comes down along PATHS: how many, or their WEIGHTS, and single PATHS. */
    private static final class Flow {
        final Shape shape;
        final Pairs pairs;
        final Heights heights;

        // What has come to each from where it was poured.
        final long[] value = new long[SLOTS];

        // In how many ways one comes from each to the end that was asked for.
        final long[] ways = new long[SLOTS];
        final int[] row = new int[SLOTS];
        long skip;

        Flow(Shape shape, Pairs pairs, Heights heights) {
            this.shape = shape;
            this.pairs = pairs;
            this.heights = heights;
        }

        void start(int from) {
            heights.measure();
            Arrays.fill(value, 0L);
            value[from] = 1L;
        }

        void holdOnly(long set) {
            for (int k = 0; k < SLOTS; k++) {
                if (!isIn(set, k)) {
                    value[k] = 0L;
                }
            }
        }

        /** Brings the values of a DIM down, from the highest on, each when all has come to it. */
        void pour(int dim, boolean signed) {
            for (int i = heights.ordered - 1; i >= 0; i--) {
                int k = heights.order[i];
                if (value[k] != 0L && shape.dims[k] == dim) {
                    goDown(k, signed);
                } else if (value[k] != 0L && shape.dims[k] == dim - 1) {
                    goUp(k, signed);
                }
            }
        }

        private void goDown(int k, boolean signed) {
            long rest = pairs.below(k);
            for (int step = 0; step < MOST_LETTERS && rest != 0L; step++) {
                int face = lowest(rest);
                rest &= rest - 1L;
                value[face] += signed ? value[k] * shape.signOf(face, k) : value[k];
            }
        }

        private void goUp(int k, boolean signed) {
            int whole = pairs.partner[k];
            // The FACE in a PAIR has the lower number.
            if (whole <= k) {
                return;
            }
            value[whole] += signed ? -value[k] * shape.signOf(k, whole) : value[k];
        }

        long countWays(int from, int to) {
            heights.measure();
            Arrays.fill(ways, 0L);
            for (int i = 0; i < heights.ordered; i++) {
                int k = heights.order[i];
                if (k == to) {
                    ways[k] = 1L;
                } else if (shape.dims[k] == shape.dims[from]) {
                    ways[k] = waysDown(k);
                } else if (shape.dims[k] == shape.dims[to] && pairs.partner[k] > k) {
                    ways[k] = ways[pairs.partner[k]];
                }
            }
            return ways[from];
        }

        private long waysDown(int k) {
            long sum = 0L;
            long rest = pairs.below(k);
            for (int step = 0; step < MOST_LETTERS && rest != 0L; step++) {
                sum += ways[lowest(rest)];
                rest &= rest - 1L;
            }
            return sum;
        }

        /** Writes the k-th PATH into the row, by the ways that were counted: how long it is. */
        int trace(int from, int to, long k) {
            skip = k;
            row[0] = from;
            int length = 1;
            int at = from;
            while (at != to && length + 2 < SLOTS) {
                int face = chosenFace(at);
                row[length] = face;
                length++;
                at = face;
                if (face != to && pairs.partner[face] != NONE) {
                    at = pairs.partner[face];
                    row[length] = at;
                    length++;
                }
            }
            return length;
        }

        private int chosenFace(int k) {
            long rest = pairs.below(k);
            int face = lowest(rest);
            for (int step = 0; step < MOST_LETTERS && rest != 0L; step++) {
                face = lowest(rest);
                if (skip < ways[face]) {
                    return face;
                }
                skip -= ways[face];
                rest &= rest - 1L;
            }
            return face;
        }
    }

    /** BOUNDARIES as tables of numbers, and what homology asks of them. */
    private static final class Boundary {
        final Shape shape;
        final Flow flow;
        final Matrix matrix;
        final long[] torsions = new long[SLOTS];

        Boundary(Shape shape, Flow flow) {
            this.shape = shape;
            this.flow = flow;
            matrix = new Matrix();
        }

        int bettiOf(long set, int dim, boolean byPaths) {
            int here = Long.bitCount(set & shape.ofDim[dim]);
            return here - rankOf(set, dim, byPaths) - rankOf(set, dim + 1, byPaths);
        }

        /** Puts the TORSION numbers into their row: how many. */
        int torsionsOf(long set, int dim, boolean byPaths) {
            int rank = rankOf(set, dim + 1, byPaths);
            if (rank == 0 || matrix.minor == 1L) {
                return 0;
            }
            matrix.diagonalise();
            int found = 0;
            for (int i = 0; i < rank && i < SLOTS; i++) {
                if (matrix.diagonal[i] > 1L) {
                    torsions[found] = matrix.diagonal[i];
                    found++;
                }
            }
            return found;
        }

        private int rankOf(long set, int dim, boolean byPaths) {
            if (dim < 1 || dim >= DIMS) {
                return 0;
            }
            fill(set & shape.ofDim[dim], set & shape.ofDim[dim - 1], byPaths);
            return matrix.eliminate();
        }

        private void fill(long from, long to, boolean byPaths) {
            matrix.resize(Long.bitCount(from), Long.bitCount(to));
            int row = 0;
            for (int k = 0; k < shape.size; k++) {
                if (isIn(from, k)) {
                    if (byPaths) {
                        flow.start(k);
                        flow.pour(shape.dims[k], true);
                    }
                    fillRow(row, k, to, byPaths);
                    row++;
                }
            }
        }

        private void fillRow(int row, int k, long to, boolean byPaths) {
            int column = 0;
            for (int face = 0; face < shape.size; face++) {
                if (isIn(to, face)) {
                    matrix.put(row, column, byPaths ? flow.value[face] : shape.signOf(face, k));
                    column++;
                }
            }
        }
    }

    /**
     * A table of whole numbers. Every number met while it is eliminated is a minor of it; and minors
     * of a BOUNDARY, by INCIDENCES too, are minors of the one by SIGNS: they stay below 3 to the 14th.
     */
    private static final class Matrix {
        final long[] cells = new long[MOST_CELLS];
        final long[] work = new long[MOST_CELLS];
        final long[] diagonal = new long[SLOTS];
        int rows;
        int columns;

        // The size of one minor, not 0, of as many rows as the rank has; 1 for rank 0.
        long minor;

        void resize(int newRows, int newColumns) {
            boolean fits = newRows >= 0 && newColumns >= 0 && newRows < SLOTS && newColumns < SLOTS
                    && newRows * newColumns <= MOST_CELLS;
            rows = fits ? newRows : 0;
            columns = fits ? newColumns : 0;
        }

        void put(int row, int column, long number) {
            if (row >= 0 && row < rows && column >= 0 && column < columns) {
                cells[row * columns + column] = number;
            }
        }

        /** Fraction-free elimination of a copy: the rank. */
        int eliminate() {
            System.arraycopy(cells, 0, work, 0, rows * columns);
            int rank = 0;
            long last = 1L;
            for (int column = 0; column < columns && rank < rows; column++) {
                int row = firstRow(rank, column);
                if (row != NONE) {
                    swapRows(work, rank, row);
                    makePositive(rank, column);
                    clearBelow(rank, column, last);
                    last = work[rank * columns + column];
                    rank++;
                }
            }
            minor = last;
            return rank;
        }

        private int firstRow(int from, int column) {
            for (int row = from; row < rows; row++) {
                if (work[row * columns + column] != 0L) {
                    return row;
                }
            }
            return NONE;
        }

        private void clearBelow(int top, int column, long last) {
            long pivot = work[top * columns + column];
            if (last == 0L) {
                return;
            }
            for (int row = top + 1; row < rows; row++) {
                long head = work[row * columns + column];
                // Most heads are 0 and most pivots 1: such a row stays as it is.
                boolean changes = head != 0L || pivot != last;
                for (int j = column; j < columns && changes; j++) {
                    int at = row * columns + j;
                    work[at] = (work[at] * pivot - head * work[top * columns + j]) / last;
                }
            }
        }

        private void makePositive(int row, int column) {
            if (work[row * columns + column] > 0L) {
                return;
            }
            for (int j = column; j < columns; j++) {
                work[row * columns + j] = -work[row * columns + j];
            }
        }

        /**
         * Brings the table to a diagonal, each number dividing the next. It is done with remainders
         * of the minor, which all numbers of the diagonal divide, so that nothing can grow.
         */
        void diagonalise() {
            int most = Math.min(rows, columns);
            for (int i = 0; i < rows * columns; i++) {
                cells[i] = remainder(cells[i]);
            }
            for (int corner = 0; corner < most; corner++) {
                diagonal[corner] = clearCorner(corner);
            }
            for (int i = 0; i < most; i++) {
                for (int j = i + 1; j < most; j++) {
                    makeDivide(i, j);
                }
            }
        }

        private void makeDivide(int i, int j) {
            long common = gcd(diagonal[i], diagonal[j]);
            if (common != 0L) {
                diagonal[j] = diagonal[i] / common * diagonal[j];
                diagonal[i] = common;
            }
        }

        private long clearCorner(int corner) {
            for (int round = 0; round < MOST_ROUNDS; round++) {
                int least = leastCell(corner);
                if (least == NONE || columns <= 0) {
                    return minor;
                }
                swapRows(cells, corner, least / columns);
                swapColumns(corner, least % columns);
                boolean rowsDone = reduceRows(corner);
                boolean columnsDone = reduceColumns(corner);
                if (rowsDone && columnsDone) {
                    return gcd(cells[corner * columns + corner], minor);
                }
            }
            return minor;
        }

        private int leastCell(int corner) {
            int best = NONE;
            for (int row = corner; row < rows; row++) {
                for (int column = corner; column < columns; column++) {
                    int at = row * columns + column;
                    boolean better = best == NONE || Math.abs(cells[at]) < Math.abs(cells[best]);
                    if (cells[at] != 0L && better) {
                        best = at;
                    }
                }
            }
            return best;
        }

        private boolean reduceRows(int corner) {
            boolean done = true;
            for (int row = corner + 1; row < rows; row++) {
                long times = nearest(cells[row * columns + corner], cells[corner * columns + corner]);
                for (int j = corner; j < columns && times != 0L; j++) {
                    int at = row * columns + j;
                    cells[at] = remainder(cells[at] - times * cells[corner * columns + j]);
                }
                done = done && cells[row * columns + corner] == 0L;
            }
            return done;
        }

        private boolean reduceColumns(int corner) {
            boolean done = true;
            for (int column = corner + 1; column < columns; column++) {
                long times = nearest(cells[corner * columns + column], cells[corner * columns + corner]);
                for (int i = corner; i < rows && times != 0L; i++) {
                    int at = i * columns + column;
                    cells[at] = remainder(cells[at] - times * cells[i * columns + corner]);
                }
                done = done && cells[corner * columns + column] == 0L;
            }
            return done;
        }

        private void swapRows(long[] table, int one, int other) {
            for (int j = 0; j < columns && one != other; j++) {
                long held = table[one * columns + j];
                table[one * columns + j] = table[other * columns + j];
                table[other * columns + j] = held;
            }
        }

        private void swapColumns(int one, int other) {
            for (int i = 0; i < rows && one != other; i++) {
                long held = cells[i * columns + one];
                cells[i * columns + one] = cells[i * columns + other];
                cells[i * columns + other] = held;
            }
        }

        /** Of the minor, the rest nearest to 0. */
        private long remainder(long number) {
            if (minor <= 0L) {
                return number;
            }
            long rest = Math.floorMod(number, minor);
            return 2L * rest > minor ? rest - minor : rest;
        }

        /** The quotient whose rest is nearest to 0, so that what is left is at most half. */
        private static long nearest(long number, long divisor) {
            if (divisor == 0L) {
                return 0L;
            }
            long size = Math.abs(divisor);
            long times = Math.floorDiv(2L * number + size, 2L * size);
            return divisor < 0L ? -times : times;
        }

        private static long gcd(long one, long other) {
            long a = Math.abs(one);
            long b = Math.abs(other);
            for (int step = 0; step < MOST_ROUNDS && b != 0L; step++) {
                long rest = a % b;
                a = b;
                b = rest;
            }
            return a;
        }
    }

    /** How things stood ahead of the last ACTS, the oldest overwritten first. */
    private static final class History {
        final int[] partners = new int[MOST_UNDO * SLOTS];
        final long[] present = new long[MOST_UNDO];
        int size;
        int next;

        void save(Pairs pairs) {
            System.arraycopy(pairs.partner, 0, partners, next * SLOTS, SLOTS);
            present[next] = pairs.there;
            next = (next + 1) % MOST_UNDO;
            size = Math.min(size + 1, MOST_UNDO);
        }

        void restore(Pairs pairs) {
            if (size == 0) {
                return;
            }
            next = (next + MOST_UNDO - 1) % MOST_UNDO;
            size--;
            pairs.takeBack(partners, next * SLOTS, present[next]);
        }
    }

    /** The PAIRS that were KEPT, by number. */
    private static final class Kept {
        final int[] partners = new int[KEEPS * SLOTS];
        long filled;

        void forget() {
            filled = 0L;
        }

        void store(int k, Pairs pairs) {
            System.arraycopy(pairs.partner, 0, partners, k * SLOTS, SLOTS);
            filled |= bit(k);
        }

        int shared(int k, Pairs pairs) {
            int found = 0;
            for (int i = 0; i < SLOTS; i++) {
                if (pairs.partner[i] > i && pairs.partner[i] == partners[k * SLOTS + i]) {
                    found++;
                }
            }
            return found;
        }
    }
}
