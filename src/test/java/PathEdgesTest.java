import java.util.Arrays;

/** Boundary cases of promises 14 to 21: what is CRITICAL, PATHS between, what they weigh, CHAINS, ROOTS. */
public final class PathEdgesTest {
    private static final int NONE = MorseDesk.NONE;

    /** No PAIRS at all. */
    private static final Edges.Start PLAIN = Edges.laden(Edges.SOLID);

    /** a and ab, b and bc in PAIRS: from ac (4) to c (2) by a, ab, b, bc, and straight. */
    private static final Edges.Start RING = Edges.laden(Edges.RING, desk -> {
        desk.pair(0, 3);
        desk.pair(1, 5);
    });

    /** In SOLID ab (3) and abc (6) are GONE, a and ac in a PAIR; b, c and bc are CRITICAL. */
    private static final Edges.Start GONE = Edges.laden(Edges.SOLID, desk -> {
        desk.collapse(3);
        desk.pair(0, 4);
    });

    /** Ends that are not such: in RING, c (2) and ac (4) alone are CRITICAL. */
    private static final int[][] NO_ENDS = {{2, 4}, {4, 4}, {2, 2}, {4, 0}, {4, 1}, {3, 2}, {5, 2}, {3, 0}, {0, 2}};

    /** In SOLID without PAIRS: two DIMS apart, none apart, the wrong way. */
    private static final int[][] NO_DIMS = {{6, 0}, {6, 2}, {6, 6}, {3, 4}, {0, 1}, {0, 3}, {3, 6}, {0, 6}};

    private static final int[][] GONE_ENDS = {{6, 5}, {6, 3}, {3, 0}, {3, 1}, {6, 4}, {5, 3}};

    public static void main(String[] args) {
        Edges.run(PathEdgesTest.class, 14, 21);
    }

    private static void due(long got, long want) {
        Edges.due(got, want);
    }

    /** A question about two ends. */
    private interface Ends {
        long ask(MorseDesk desk, int from, int to);
    }

    /** Asks about all twos that are no ends of PATHS. */
    private static void refusedEnds(Ends question, long answer) {
        refusedEnds(RING, NO_ENDS, question, answer);
        refusedEnds(PLAIN, NO_DIMS, question, answer);
        refusedEnds(GONE, GONE_ENDS, question, answer);
        refusedEnds(Edges.BARE, new int[][] {{0, 0}, {1, 0}, {-1, -2}}, question, answer);
        MorseDesk ring = Edges.ringInPairs();
        for (int k : Edges.beyond(6)) {
            due(question.ask(ring, k, 2), answer);
            due(question.ask(ring, 4, k), answer);
            due(question.ask(ring, k, k), answer);
            due(question.ask(ring, k, k - 1), answer);
        }
    }

    private static void refusedEnds(Edges.Start start, int[][] ends, Ends question, long answer) {
        for (int[] two : ends) {
            Edges.refused(start, desk -> question.ask(desk, two[0], two[1]), answer);
        }
    }

    // 14: critical.

    static void p14_noPairsAtAll() {
        MorseDesk desk = Edges.of(Edges.SOLID);
        int[] first = {0, 3, 6, 7};
        for (int dim = 0; dim < 3; dim++) {
            due(desk.critical(dim, NONE), first[dim + 1] - first[dim]);
            due(desk.critical(dim, 0), first[dim]);
            due(desk.critical(dim, first[dim + 1] - first[dim] - 1), first[dim + 1] - 1);
            due(desk.critical(dim, first[dim + 1] - first[dim]), -2);
        }
    }

    static void p14_allOfADimInPairs() {
        MorseDesk desk = Edges.of(Edges.SOLID);
        due(desk.auto(0), 1);
        due(desk.critical(0, NONE), 1);
        due(desk.critical(0, 0), 2);
        due(desk.critical(0, 1), -2);
        for (int dim = 1; dim < 5; dim++) {
            due(desk.critical(dim, NONE), 0);
            due(desk.critical(dim, 0), -2);
        }
    }

    static void p14_notSoMany() {
        for (int k : new int[] {3, 4, 60, 64, 65, 1 << 30, Edges.MOST}) {
            Edges.refused(PLAIN, desk -> desk.critical(1, k), -2);
        }
        due(PLAIN.make(false).critical(1, 2), 5);
        due(Edges.of(Edges.SIXTY).critical(4, 1), 59);
        due(Edges.of(Edges.SIXTY).critical(4, 2), -2);
    }

    static void p14_aDimBeyond0To4() {
        for (int dim : new int[] {-1, 5, 6, 64, Edges.LEAST, Edges.MOST}) {
            for (int k : new int[] {-2, NONE, 0, Edges.MOST}) {
                Edges.refused(PLAIN, desk -> desk.critical(dim, k), NONE);
            }
        }
        due(new MorseDesk().critical(5, 0), NONE);
    }

    static void p14_kBelowNone() {
        for (int k : new int[] {-2, -3, Edges.LEAST}) {
            for (int dim = 0; dim < 5; dim++) {
                int asked = dim;
                Edges.refused(RING, desk -> desk.critical(asked, k), NONE);
            }
        }
        due(new MorseDesk().critical(0, -2), NONE);
    }

    static void p14_goneOnesAreNotCritical() {
        MorseDesk desk = GONE.make(false);
        due(desk.critical(0, NONE), 2);
        due(desk.critical(0, 0), 1);
        due(desk.critical(1, NONE), 1);
        due(desk.critical(1, 0), 5);
        due(desk.critical(2, NONE), 0);
        due(desk.critical(2, 0), -2);
    }

    static void p14_nothingThereButOne() {
        MorseDesk desk = Edges.onePoint();
        due(desk.critical(0, NONE), 1);
        due(desk.critical(0, 0), 2);
        due(desk.critical(0, 1), -2);
        due(desk.critical(1, NONE), 0);
    }

    // 15: paths.

    static void p15_notSuch() {
        refusedEnds(MorseDesk::paths, NONE);
    }

    static void p15_noPathIsNoRefusal() {
        Edges.refused(PLAIN, desk -> desk.paths(5, 0), 0);
        due(Edges.of("ab,c").paths(3, 2), 0);
        due(GONE.make(false).paths(5, 1), 1);
    }

    static void p15_noPairsAtAll() {
        MorseDesk desk = Edges.of("abcde");
        for (int k = 0; k < 30; k++) {
            due(desk.simplex(k, 1) == 3 ? desk.paths(30, k) : 1, 1);
        }
    }

    static void p15_twoPaths() {
        Edges.refused(RING, desk -> desk.paths(4, 2), 2);
    }

    // 16: path.

    static void p16_notSuch() {
        refusedEnds((desk, from, to) -> desk.path(from, to, 0, 0), NONE);
        refusedEnds((desk, from, to) -> desk.path(from, to, 0, NONE), NONE);
    }

    static void p16_theFirstAndTheLastOfAPath() {
        MorseDesk desk = Edges.ringInPairs();
        long[] first = {4, 0, 3, 1, 5, 2};
        for (int i = 0; i < first.length; i++) {
            due(desk.path(4, 2, 0, i), first[i]);
        }
        due(desk.path(4, 2, 1, 0), 4);
        due(desk.path(4, 2, 1, 1), 2);
    }

    static void p16_howManyItHas() {
        Edges.refused(RING, desk -> desk.path(4, 2, 0, NONE), 6);
        Edges.refused(RING, desk -> desk.path(4, 2, 1, NONE), 2);
    }

    static void p16_notSoManyInIt() {
        for (int i : new int[] {6, 7, 63, 64, 65, Edges.MOST}) {
            Edges.refused(RING, desk -> desk.path(4, 2, 0, i), -2);
        }
        Edges.refused(RING, desk -> desk.path(4, 2, 1, 2), -2);
    }

    static void p16_notSoManyPaths() {
        for (int k : new int[] {2, 3, 64, Edges.MOST}) {
            for (int i : new int[] {NONE, 0, 1, Edges.MOST}) {
                Edges.refused(RING, desk -> desk.path(4, 2, k, i), -2);
            }
        }
    }

    static void p16_noPathAtAll() {
        for (int i : new int[] {NONE, 0, 1}) {
            Edges.refused(PLAIN, desk -> desk.path(5, 0, 0, i), -2);
        }
    }

    static void p16_kBelow0() {
        for (int k : new int[] {-1, -2, Edges.LEAST}) {
            for (int i : new int[] {NONE, 0, Edges.MOST}) {
                Edges.refused(RING, desk -> desk.path(4, 2, k, i), NONE);
                Edges.refused(PLAIN, desk -> desk.path(5, 0, k, i), NONE);
            }
        }
    }

    static void p16_iBelowNone() {
        for (int i : new int[] {-2, -3, Edges.LEAST}) {
            for (int k : new int[] {0, 1, 2, Edges.MOST}) {
                Edges.refused(RING, desk -> desk.path(4, 2, k, i), NONE);
            }
        }
    }

    static void p16_aLongRow() {
        MorseDesk desk = Edges.of("ab,bc,cd,de,ef,fg,gh,ah");
        int[] edges = {3, 6, 12, 24, 48, 96, 192};
        for (int k = 0; k < 7; k++) {
            desk.pair(k, desk.number(edges[k]));
        }
        int last = desk.number(129);
        due(desk.path(last, 7, 0, NONE), 16);
        for (int i = 0; i < 7; i++) {
            due(desk.path(last, 7, 0, 2 * i + 1), i);
            due(desk.path(last, 7, 0, 2 * i + 2), desk.number(edges[i]));
        }
        due(desk.path(last, 7, 0, 15), 7);
        due(desk.path(last, 7, 0, 16), -2);
        due(desk.path(last, 7, 1, NONE), 2);
        due(desk.path(last, 7, 2, NONE), -2);
    }

    /** All triangles at five points, PAIRED so that six PATHS go from abd (16) to ac (6). */
    private static MorseDesk sixPaths() {
        MorseDesk desk = Edges.of("abc,abd,abe,acd,ace,ade,bcd,bce,bde,cde");
        int[][] pairs = {{7, 15}, {11, 20}, {8, 22}, {14, 23}, {9, 18}, {5, 19}};
        for (int[] two : pairs) {
            desk.pair(two[0], two[1]);
        }
        return desk;
    }

    private static int[] row(MorseDesk desk, int k) {
        int[] row = new int[desk.path(16, 6, k, NONE)];
        for (int i = 0; i < row.length; i++) {
            row[i] = desk.path(16, 6, k, i);
        }
        return row;
    }

    static void p16_pathsInTheOrderOfTheirRows() {
        MorseDesk desk = sixPaths();
        due(desk.paths(16, 6), 6);
        int[] before = {};
        for (int k = 0; k < 6; k++) {
            int[] row = row(desk, k);
            due(row[0], 16);
            due(row[row.length - 1], 6);
            for (int i = 1; i < row.length; i++) {
                boolean down = i % 2 == 1;
                due(down ? Math.abs(desk.sign(row[i], row[i - 1])) : desk.simplex(row[i - 1], 3), down ? 1 : row[i]);
            }
            due(Arrays.compare(before, row) < 0 ? 1 : 0, 1);
            due(desk.path(16, 6, k, row.length), -2);
            before = row;
        }
        due(desk.path(16, 6, 6, 0), -2);
    }

    // 17: incidence.

    static void p17_notSuch() {
        refusedEnds(MorseDesk::incidence, Edges.NO_LONG);
    }

    static void p17_noPath() {
        Edges.refused(PLAIN, desk -> desk.incidence(5, 0), 0);
        due(Edges.of("ab,c").incidence(3, 2), 0);
    }

    static void p17_twoPathsThatWeighNothingTogether() {
        Edges.refused(RING, desk -> desk.incidence(4, 2), 0);
    }

    static void p17_noPairsAtAllIsTheSign() {
        MorseDesk desk = Edges.of(Edges.SOLID);
        for (int from = 3; from < 7; from++) {
            for (int to = from < 6 ? 0 : 3; to < (from < 6 ? 3 : 6); to++) {
                due(desk.incidence(from, to), desk.sign(to, from));
            }
        }
    }

    static void p17_aStepUpTurnsTheSign() {
        MorseDesk desk = Edges.of("ab,bc");
        desk.pair(1, 3);
        // bc to c is straight; bc to b, up to ab, down to a: -1 times -(1) times -1.
        due(desk.incidence(4, 2), 1);
        due(desk.incidence(4, 0), -1);
    }

    static void p17_sixPathsTogether() {
        MorseDesk desk = sixPaths();
        long sum = 0;
        for (int k = 0; k < 6; k++) {
            int[] row = row(desk, k);
            int weight = 1;
            for (int i = 1; i < row.length; i++) {
                weight *= i % 2 == 1 ? desk.sign(row[i], row[i - 1]) : -desk.sign(row[i - 1], row[i]);
            }
            sum += weight;
        }
        due(desk.incidence(16, 6), sum);
    }

    // 18: chain.

    static void p18_notCritical() {
        for (int[] two : new int[][] {{3, 4}, {5, 5}, {0, 0}, {1, 2}, {3, 3}}) {
            Edges.refused(RING, desk -> desk.chain(two[0], two[1]), Edges.NO_LONG);
        }
    }

    static void p18_notOfItsDim() {
        for (int[] two : new int[][] {{4, 0}, {4, 2}, {2, 3}, {2, 4}}) {
            Edges.refused(RING, desk -> desk.chain(two[0], two[1]), Edges.NO_LONG);
        }
        Edges.refused(PLAIN, desk -> desk.chain(6, 3), Edges.NO_LONG);
        Edges.refused(PLAIN, desk -> desk.chain(0, 6), Edges.NO_LONG);
    }

    static void p18_noSuchNumbers() {
        for (int k : Edges.beyond(6)) {
            Edges.refused(RING, desk -> desk.chain(k, 4), Edges.NO_LONG);
            Edges.refused(RING, desk -> desk.chain(4, k), Edges.NO_LONG);
        }
        Edges.refused(Edges.BARE, desk -> desk.chain(0, 0), Edges.NO_LONG);
    }

    static void p18_gone() {
        for (int[] two : new int[][] {{5, 3}, {3, 5}, {3, 3}, {6, 6}, {3, 4}}) {
            Edges.refused(GONE, desk -> desk.chain(two[0], two[1]), Edges.NO_LONG);
        }
    }

    static void p18_oneForItself() {
        MorseDesk desk = Edges.of(Edges.SOLID);
        for (int k = 0; k < 7; k++) {
            due(desk.chain(k, k), 1);
        }
        due(Edges.onePoint().chain(2, 2), 1);
    }

    static void p18_noneForAllOthers() {
        Edges.refused(PLAIN, desk -> desk.chain(3, 4), 0);
        Edges.refused(RING, desk -> desk.chain(2, 0), 0);
        Edges.refused(GONE, desk -> desk.chain(5, 4), 0);
        // A PARTNER of one DIM more is no PAIR with its FACE.
        MorseDesk desk = Edges.of(Edges.SOLID);
        desk.pair(3, 6);
        due(desk.chain(4, 3), 0);
        due(desk.chain(5, 3), 0);
    }

    static void p18_alongPairs() {
        MorseDesk desk = Edges.ringInPairs();
        due(desk.chain(4, 3), -1);
        due(desk.chain(4, 5), -1);
    }

    // 19: root.

    static void p19_noSuchWhat() {
        for (int what : new int[] {-1, 2, 3, Edges.LEAST, Edges.MOST}) {
            Edges.refused(RING, desk -> desk.root(0, what), NONE);
            Edges.refused(RING, desk -> desk.root(2, what), NONE);
        }
    }

    static void p19_notOfDim0() {
        for (int what = 0; what < 2; what++) {
            int asked = what;
            for (int k : new int[] {3, 4, 5, 6}) {
                Edges.refused(PLAIN, desk -> desk.root(k, asked), NONE);
            }
            Edges.refused(RING, desk -> desk.root(3, asked), NONE);
        }
    }

    static void p19_noSuchNumber() {
        for (int k : Edges.beyond(6)) {
            Edges.refused(RING, desk -> desk.root(k, 0), NONE);
            Edges.refused(RING, desk -> desk.root(k, 1), NONE);
        }
        Edges.refused(Edges.BARE, desk -> desk.root(0, 0), NONE);
    }

    static void p19_gone() {
        for (int k : new int[] {0, 1, 3}) {
            Edges.refused(Edges.laden(Edges.SOLID, desk -> {
                desk.collapse(3);
                desk.collapse(0);
                desk.collapse(1);
            }), desk -> desk.root(k, 0), NONE);
        }
        due(Edges.onePoint().root(0, 1), NONE);
        due(Edges.onePoint().root(2, 0), 2);
        due(Edges.onePoint().root(2, 1), 0);
    }

    static void p19_aCriticalOneIsItsOwnRoot() {
        for (int k = 0; k < 3; k++) {
            int point = k;
            Edges.refused(PLAIN, desk -> desk.root(point, 0), k);
            Edges.refused(PLAIN, desk -> desk.root(point, 1), 0);
        }
    }

    static void p19_theLongestWay() {
        MorseDesk desk = Edges.of("ab,bc,cd,de,ef,fg,gh");
        for (int k = 0; k < 7; k++) {
            desk.pair(k, 8 + k);
        }
        for (int k = 0; k < 8; k++) {
            due(desk.root(k, 0), 7);
            due(desk.root(k, 1), 7 - k);
        }
    }

    // 20: through.

    static void p20_notSuch() {
        refusedEnds((desk, from, to) -> desk.through(from, to, 2), NONE);
    }

    static void p20_noSuchNumber() {
        for (int k : Edges.beyond(6)) {
            Edges.refused(RING, desk -> desk.through(4, 2, k), NONE);
        }
    }

    static void p20_gone() {
        for (int k : new int[] {3, 6}) {
            Edges.refused(GONE, desk -> desk.through(5, 1, k), NONE);
            Edges.refused(GONE, desk -> desk.through(5, 2, k), NONE);
        }
    }

    static void p20_theirEndsToo() {
        Edges.refused(RING, desk -> desk.through(4, 2, 4), 2);
        Edges.refused(RING, desk -> desk.through(4, 2, 2), 2);
        Edges.refused(PLAIN, desk -> desk.through(6, 5, 6), 1);
        Edges.refused(PLAIN, desk -> desk.through(6, 5, 5), 1);
    }

    static void p20_noneGoThrough() {
        Edges.refused(PLAIN, desk -> desk.through(6, 5, 4), 0);
        Edges.refused(PLAIN, desk -> desk.through(6, 5, 0), 0);
        Edges.refused(GONE, desk -> desk.through(5, 1, 4), 0);
    }

    static void p20_noPathAtAll() {
        for (int k = 0; k < 7; k++) {
            int via = k;
            Edges.refused(PLAIN, desk -> desk.through(5, 0, via), 0);
        }
    }

    static void p20_someOfSixPaths() {
        MorseDesk desk = sixPaths();
        long[] many = new long[25];
        for (int k = 0; k < 6; k++) {
            for (int via : row(desk, k)) {
                many[via]++;
            }
        }
        for (int via = 0; via < 25; via++) {
            due(desk.through(16, 6, via), many[via]);
        }
    }

    // 21: squares.

    static void p21_noComplexOrLittle() {
        Edges.refused(Edges.BARE, MorseDesk::squares, 0);
        due(Edges.of("a").squares(), 0);
        due(Edges.of(Edges.RING).squares(), 0);
        due(Edges.onePoint().squares(), 0);
    }

    static void p21_noPairsAtAll() {
        Edges.refused(PLAIN, MorseDesk::squares, 0);
        due(Edges.of("abcde").squares(), 0);
        due(Edges.of(Edges.SIXTY).squares(), 0);
    }

    static void p21_asManyPairsAsCanBe() {
        for (int how = 0; how < 3; how++) {
            for (String text : new String[] {Edges.SOLID, Edges.PLANE, Edges.SIXTY}) {
                MorseDesk desk = Edges.of(text);
                desk.auto(how);
                due(desk.squares(), 0);
            }
        }
    }

    static void p21_pairsInTheMiddleDimAlone() {
        MorseDesk desk = Edges.of("abcde,bcdef");
        desk.pair(desk.number(3), desk.number(7));
        desk.pair(desk.number(5), desk.number(13));
        desk.pair(desk.number(9), desk.number(25));
        due(desk.squares(), 0);
        Edges.refused(GONE, MorseDesk::squares, 0);
    }
}
