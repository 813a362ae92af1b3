/** Boundary cases of promises 22 to 28: BETTI, TORSION, SLACK, what is free or a facet, LINK, ROOM. */
public final class HomologyEdgesTest {
    private static final int NONE = MorseDesk.NONE;
    private static final int[] NO_DIMS = {-1, -2, 5, 6, 64, Edges.LEAST, Edges.MOST};
    private static final int[] NO_WHICH = {-1, 2, 3, Edges.LEAST, Edges.MOST};

    private static final Edges.Start PLAIN = Edges.laden(Edges.SOLID);

    private static final Edges.Start PLANE = Edges.laden(Edges.PLANE, desk -> desk.auto(1));

    /** In SOLID ab (3) and abc (6) are GONE, a and ac in a PAIR. */
    private static final Edges.Start GONE = Edges.laden(Edges.SOLID, desk -> {
        desk.collapse(3);
        desk.pair(0, 4);
    });

    private static final Edges.Start[] STARTS = {PLAIN, PLANE, GONE, Edges.BARE};

    public static void main(String[] args) {
        Edges.run(HomologyEdgesTest.class, 22, 28);
    }

    private static void due(long got, long want) {
        Edges.due(got, want);
    }

    private static void dueBetti(MorseDesk desk, int... want) {
        for (int dim = 0; dim < 5; dim++) {
            for (int which = 0; which < 2; which++) {
                due(desk.betti(dim, which), dim < want.length ? want[dim] : 0);
            }
        }
    }

    // 22: betti.

    static void p22_otherDims() {
        for (int dim : NO_DIMS) {
            Edges.refusedOnAll(STARTS, desk -> desk.betti(dim, 0), NONE);
            Edges.refusedOnAll(STARTS, desk -> desk.betti(dim, 1), NONE);
        }
    }

    static void p22_otherWhich() {
        for (int which : NO_WHICH) {
            Edges.refusedOnAll(STARTS, desk -> desk.betti(0, which), NONE);
            Edges.refusedOnAll(STARTS, desk -> desk.betti(4, which), NONE);
        }
    }

    static void p22_ranksWhereThereIsNoBoundary() {
        dueBetti(Edges.of("a"), 1);
        dueBetti(Edges.of("a,b,c,d,e,f,g,h"), 8);
        dueBetti(Edges.of("abcde"), 1);
        dueBetti(Edges.of("abcd,abce,abde,acde,bcde"), 1, 0, 0, 1);
        dueBetti(new MorseDesk());
    }

    static void p22_noPairsAndAsManyAsCanBe() {
        MorseDesk desk = Edges.of(Edges.RING);
        dueBetti(desk, 1, 1);
        for (int how = 0; how < 3; how++) {
            desk.auto(how);
            dueBetti(desk, 1, 1);
        }
        MorseDesk full = Edges.of(Edges.SIXTY);
        int[] want = new int[5];
        for (int dim = 0; dim < 5; dim++) {
            want[dim] = full.betti(dim, 0);
        }
        due(want[0], 2);
        for (int how = 0; how < 3; how++) {
            full.auto(how);
            dueBetti(full, want);
        }
    }

    static void p22_whatIsGoneIsLeftOut() {
        dueBetti(GONE.make(false), 1);
        dueBetti(Edges.onePoint(), 1);
        MorseDesk wide = Edges.of("abc,cd,bd");
        dueBetti(wide, 1, 1);
        wide.collapse(wide.number(3));
        dueBetti(wide, 1, 1);
        Edges.refused(GONE, desk -> desk.betti(1, 1), 0);
    }

    // 23: torsion.

    static void p23_otherDims() {
        for (int dim : NO_DIMS) {
            for (int k : new int[] {-2, NONE, 0, Edges.MOST}) {
                Edges.refusedOnAll(STARTS, desk -> desk.torsion(dim, k, 0), NONE);
                Edges.refusedOnAll(STARTS, desk -> desk.torsion(dim, k, 1), NONE);
            }
        }
    }

    static void p23_otherWhich() {
        for (int which : NO_WHICH) {
            Edges.refusedOnAll(STARTS, desk -> desk.torsion(1, 0, which), NONE);
            Edges.refusedOnAll(STARTS, desk -> desk.torsion(1, NONE, which), NONE);
        }
    }

    static void p23_kBelowNone() {
        for (int k : new int[] {-2, -3, Edges.LEAST}) {
            Edges.refusedOnAll(STARTS, desk -> desk.torsion(1, k, 0), NONE);
            Edges.refusedOnAll(STARTS, desk -> desk.torsion(1, k, 1), NONE);
        }
    }

    static void p23_oneAndNoMore() {
        for (int which = 0; which < 2; which++) {
            int asked = which;
            Edges.refused(PLANE, desk -> desk.torsion(1, NONE, asked), 1);
            Edges.refused(PLANE, desk -> desk.torsion(1, 0, asked), 2);
            for (int k : new int[] {1, 2, 63, 64, Edges.MOST}) {
                Edges.refused(PLANE, desk -> desk.torsion(1, k, asked), -2);
            }
        }
    }

    static void p23_none() {
        for (int which = 0; which < 2; which++) {
            for (int dim = 0; dim < 5; dim++) {
                for (MorseDesk desk : new MorseDesk[] {Edges.of("abcde"), Edges.of("a"), Edges.onePoint(),
                    Edges.ringInPairs(), new MorseDesk()}) {
                    due(desk.torsion(dim, NONE, which), 0);
                    due(desk.torsion(dim, 0, which), -2);
                    due(desk.torsion(dim, Edges.MOST, which), -2);
                }
            }
        }
    }

    static void p23_noBoundaryAbove() {
        for (int dim : new int[] {0, 2, 3, 4}) {
            Edges.refused(PLANE, desk -> desk.torsion(dim, NONE, 0), 0);
            Edges.refused(PLANE, desk -> desk.torsion(dim, 0, 1), -2);
        }
    }

    static void p23_onlyThoseAbove1() {
        // 20 triangles at 8 points, where one number is 3; and 4.
        String[] texts = {"abg,abh,acd,acg,ade,aeh,agh,bce,bcf,bdf,bdh,beh,cdh,ceg,cfh,deg,dfg,dgh,efg,efh",
            "abf,abh,acd,ace,adf,aeh,bcf,bch,bdg,bdh,beg,bfg,cdg,cef,cgh,def,deg,dfh,egh,fgh"};
        for (int i = 0; i < 2; i++) {
            MorseDesk desk = Edges.of(texts[i]);
            for (int how = -1; how < 3; how++) {
                desk.auto(how);
                for (int which = 0; which < 2; which++) {
                    due(desk.torsion(1, NONE, which), 1);
                    due(desk.torsion(1, 0, which), 3 + i);
                    due(desk.torsion(1, 1, which), -2);
                }
            }
        }
    }

    // 24: slack.

    static void p24_others() {
        for (int dim : NO_DIMS) {
            Edges.refusedOnAll(STARTS, desk -> desk.slack(dim), Edges.NO_INT);
        }
    }

    static void p24_noPairsAtAll() {
        long[] want = {4, 6, 4, 1, 0};
        for (int dim = 0; dim < 5; dim++) {
            due(Edges.of("abcde").slack(dim), want[dim]);
        }
        Edges.refused(PLAIN, desk -> desk.slack(0), 2);
        Edges.refused(PLAIN, desk -> desk.slack(1), 1);
        Edges.refused(PLAIN, desk -> desk.slack(2), 0);
    }

    static void p24_asManyPairsAsCanBe() {
        MorseDesk desk = Edges.of(Edges.SOLID);
        desk.auto(0);
        for (int dim = 0; dim < 5; dim++) {
            due(desk.slack(dim), 0);
        }
    }

    static void p24_dimsWithNone() {
        for (String text : new String[] {"a", "a,b,c", Edges.RING}) {
            MorseDesk desk = Edges.of(text);
            due(desk.slack(3), 0);
            due(desk.slack(4), 0);
        }
        due(Edges.of("a,b,c").slack(0), 0);
        due(Edges.of(Edges.RING).slack(0), 2);
        due(Edges.of(Edges.RING).slack(1), 0);
        for (int dim = 0; dim < 5; dim++) {
            due(new MorseDesk().slack(dim), 0);
            due(Edges.onePoint().slack(dim), 0);
        }
    }

    static void p24_whatIsGoneIsLeftOut() {
        Edges.refused(GONE, desk -> desk.slack(0), 1);
        Edges.refused(GONE, desk -> desk.slack(1), 0);
    }

    // 25: free.

    static void p25_kBelowNone() {
        for (int k : new int[] {-2, -3, Edges.LEAST}) {
            Edges.refusedOnAll(STARTS, desk -> desk.free(k), NONE);
        }
    }

    static void p25_notSoMany() {
        for (int k : new int[] {3, 4, 64, Edges.MOST}) {
            Edges.refused(PLAIN, desk -> desk.free(k), -2);
        }
        Edges.refused(PLAIN, desk -> desk.free(NONE), 3);
        Edges.refused(PLAIN, desk -> desk.free(0), 3);
        Edges.refused(PLAIN, desk -> desk.free(2), 5);
    }

    static void p25_none() {
        for (MorseDesk desk : new MorseDesk[] {Edges.of(Edges.RING), Edges.of("a,b"), Edges.onePoint(),
            Edges.of(Edges.PLANE), new MorseDesk()}) {
            due(desk.free(NONE), 0);
            due(desk.free(0), -2);
        }
    }

    static void p25_bothEndsOfAnEdge() {
        MorseDesk desk = Edges.of("gh");
        due(desk.free(NONE), 2);
        due(desk.free(0), 0);
        due(desk.free(1), 1);
        due(desk.free(2), -2);
    }

    static void p25_whatIsGoneIsLeftOut() {
        Edges.refused(GONE, desk -> desk.free(NONE), 2);
        Edges.refused(GONE, desk -> desk.free(0), 0);
        Edges.refused(GONE, desk -> desk.free(1), 1);
        Edges.refused(GONE, desk -> desk.free(2), -2);
    }

    // 26: facet.

    static void p26_kBelowNone() {
        for (int k : new int[] {-2, -3, Edges.LEAST}) {
            Edges.refusedOnAll(STARTS, desk -> desk.facet(k), NONE);
        }
    }

    static void p26_notSoMany() {
        for (int k : new int[] {1, 2, 64, Edges.MOST}) {
            Edges.refused(PLAIN, desk -> desk.facet(k), -2);
        }
        Edges.refused(PLAIN, desk -> desk.facet(NONE), 1);
        Edges.refused(PLAIN, desk -> desk.facet(0), 6);
        due(new MorseDesk().facet(NONE), 0);
        due(new MorseDesk().facet(0), -2);
    }

    static void p26_aPointAlone() {
        due(Edges.of("a").facet(NONE), 1);
        due(Edges.of("a").facet(0), 0);
        MorseDesk desk = Edges.of("a,bc");
        due(desk.facet(NONE), 2);
        due(desk.facet(0), 0);
        due(desk.facet(1), 3);
        due(desk.facet(2), -2);
    }

    static void p26_toldButWithinAnotherOne() {
        MorseDesk desk = Edges.of("a,ab,abc,c,cb");
        due(desk.facet(NONE), 1);
        due(desk.facet(0), 6);
    }

    static void p26_whatIsGoneIsLeftOut() {
        Edges.refused(GONE, desk -> desk.facet(NONE), 2);
        Edges.refused(GONE, desk -> desk.facet(0), 4);
        Edges.refused(GONE, desk -> desk.facet(1), 5);
        Edges.refused(GONE, desk -> desk.facet(2), -2);
    }

    static void p26_nothingThereButOne() {
        due(Edges.onePoint().facet(NONE), 1);
        due(Edges.onePoint().facet(0), 2);
        due(Edges.onePoint().facet(1), -2);
    }

    static void p26_manyOfAllDims() {
        MorseDesk desk = Edges.of(Edges.SIXTY);
        // h, fg, then abcg and deg by DIM: deg before abcg, then the two of five letters.
        due(desk.facet(NONE), 6);
        long[] letters = {128, 96, 88, 71, 31, 47};
        for (int k = 0; k < 6; k++) {
            due(desk.simplex(desk.facet(k), 0), letters[k]);
        }
        due(desk.facet(6), -2);
    }

    // 27: link.

    static void p27_noSuchNumber() {
        for (int k : Edges.beyond(7)) {
            Edges.refused(PLAIN, desk -> desk.link(k, 0), Edges.NO_INT);
            Edges.refused(PLAIN, desk -> desk.link(k, 1), Edges.NO_INT);
        }
        Edges.refused(Edges.BARE, desk -> desk.link(0, 0), Edges.NO_INT);
    }

    static void p27_noSuchWhat() {
        for (int what : new int[] {-1, 2, 3, Edges.LEAST, Edges.MOST}) {
            Edges.refused(PLAIN, desk -> desk.link(0, what), Edges.NO_INT);
        }
    }

    static void p27_gone() {
        for (int what = 0; what < 2; what++) {
            int asked = what;
            Edges.refused(GONE, desk -> desk.link(3, asked), Edges.NO_INT);
            Edges.refused(GONE, desk -> desk.link(6, asked), Edges.NO_INT);
        }
    }

    static void p27_empty() {
        Edges.refused(PLAIN, desk -> desk.link(6, 0), 0);
        Edges.refused(PLAIN, desk -> desk.link(6, 1), 0);
        due(Edges.of("a,b").link(0, 0), 0);
        due(Edges.of("a,b").link(0, 1), 0);
        due(Edges.onePoint().link(2, 0), 0);
    }

    static void p27_onlyWhatMakesOneThatIsThere() {
        Edges.refused(PLAIN, desk -> desk.link(0, 0), 3);
        Edges.refused(PLAIN, desk -> desk.link(0, 1), 1);
        Edges.refused(GONE, desk -> desk.link(0, 0), 1);
        Edges.refused(GONE, desk -> desk.link(2, 0), 2);
        Edges.refused(GONE, desk -> desk.link(2, 1), 2);
        Edges.refused(GONE, desk -> desk.link(4, 0), 0);
    }

    static void p27_eulerBelow0() {
        MorseDesk desk = Edges.of("hab,hbc,hcd,had,hac,hbd");
        due(desk.link(desk.number(128), 0), 10);
        due(desk.link(desk.number(128), 1), -2);
        // NONE is an answer as any other here.
        MorseDesk one = Edges.of("hab,hbc,hcd,had,hac");
        due(one.link(one.number(128), 1), -1);
    }

    // 28: room.

    static void p28_others() {
        for (int dim : NO_DIMS) {
            Edges.refusedOnAll(STARTS, desk -> desk.room(dim), NONE);
        }
    }

    static void p28_noPairsAtAll() {
        long[] want = {20, 30, 20, 5, 0};
        for (int dim = 0; dim < 5; dim++) {
            due(Edges.of("abcde").room(dim), want[dim]);
        }
    }

    static void p28_asManyPairsAsCanBe() {
        MorseDesk desk = Edges.of(Edges.SOLID);
        desk.auto(0);
        for (int dim = 0; dim < 5; dim++) {
            due(desk.room(dim), 0);
        }
    }

    static void p28_twosThatWouldCloseACycle() {
        due(Edges.ringInPairs().room(0), 0);
        due(Edges.ringInPairs().count(4), 2);
        MorseDesk fan = Edges.of("abc,acd,abd");
        fan.pair(fan.number(5), fan.number(7));
        fan.pair(fan.number(9), fan.number(13));
        // abd is left with ab, which would close a cycle, and bd.
        due(fan.room(1), 1);
    }

    static void p28_noneOrOneThere() {
        for (int dim = 0; dim < 5; dim++) {
            due(new MorseDesk().room(dim), 0);
            due(Edges.onePoint().room(dim), 0);
            due(Edges.of("a,b,c").room(dim), 0);
        }
    }

    static void p28_whatIsGoneIsLeftOut() {
        Edges.refused(GONE, desk -> desk.room(0), 2);
        Edges.refused(GONE, desk -> desk.room(1), 0);
    }
}
