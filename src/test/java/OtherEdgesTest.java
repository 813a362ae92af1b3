/** Boundary cases of promises 29 to 35: x and what is DRAWN, LEVELS, what is KEPT, counts, the 512th call. */
public final class OtherEdgesTest {
    private static final int NONE = MorseDesk.NONE;

    /** 59 SIMPLICES: of 40 runs of DRAWS from x 0, 30 leave 7, the others up to 9. */
    private static final String KNOT =
            "dfg,cefg,abg,bde,efg,aeg,bcf,acf,beg,cdg,bce,acg,def,abf,bdeg,ceg,acde,abde,bceg,bcg,bcd";

    private static final Edges.Start PLAIN = Edges.laden(Edges.SOLID);

    /** In SOLID a and ab in a PAIR. */
    private static final Edges.Start PAIRED = Edges.laden(Edges.SOLID, desk -> desk.pair(0, 3));

    /** In SOLID ab (3) and abc (6) are GONE, a and ac in a PAIR. */
    private static final Edges.Start GONE = Edges.laden(Edges.SOLID, desk -> {
        desk.collapse(3);
        desk.pair(0, 4);
    });

    private static final Edges.Start[] STARTS = {PLAIN, PAIRED, GONE, Edges.BARE};

    public static void main(String[] args) {
        Edges.run(OtherEdgesTest.class, 29, 35);
    }

    private static void due(long got, long want) {
        Edges.due(got, want);
    }

    // 29: draws.

    static void p29_0AtFirst() {
        due(new MorseDesk().count(8), 0);
        due(new MorseDesk().draws(1), 0);
    }

    static void p29_theLeastAndTheMost() {
        MorseDesk desk = new MorseDesk();
        due(desk.draws(Edges.MOST), 0);
        due(desk.count(8), Edges.MOST);
        due(desk.draws(0), Edges.MOST);
        due(desk.count(8), 0);
        due(desk.draws(Edges.MOST - 1), 0);
        due(desk.draws(Edges.MOST - 1), Edges.MOST - 1);
    }

    static void p29_below0() {
        for (int x : new int[] {-1, -2, -65536, Edges.LEAST + 1, Edges.LEAST}) {
            Edges.refusedOnAll(STARTS, desk -> desk.draws(x), NONE);
        }
    }

    static void p29_isNoAct() {
        MorseDesk desk = PAIRED.make(false);
        int acts = desk.count(7);
        desk.draws(5);
        due(desk.count(7), acts);
        due(desk.count(8), 5);
        due(desk.undo(), acts - 1);
        due(desk.count(8), 5);
    }

    // 30: drawn.

    static void p30_noSuchM() {
        for (int m : new int[] {0, -1, 41, 42, Edges.LEAST, Edges.MOST}) {
            for (int what = 0; what < 3; what++) {
                int asked = what;
                Edges.refusedOnAll(STARTS, desk -> desk.drawn(m, asked), NONE);
            }
        }
    }

    static void p30_noSuchWhat() {
        for (int what : new int[] {-1, 3, 4, Edges.LEAST, Edges.MOST}) {
            Edges.refusedOnAll(STARTS, desk -> desk.drawn(1, what), NONE);
            Edges.refusedOnAll(STARTS, desk -> desk.drawn(40, what), NONE);
        }
    }

    static void p30_withoutAComplex() {
        for (int what = 0; what < 3; what++) {
            int asked = what;
            Edges.refused(Edges.BARE, desk -> desk.drawn(1, asked), NONE);
            Edges.refused(Edges.BARE, desk -> desk.drawn(40, asked), NONE);
        }
    }

    static void p30_nothingStaysAndXAsItWas() {
        for (Edges.Start start : new Edges.Start[] {PLAIN, PAIRED, GONE}) {
            for (int m : new int[] {1, 2, 40}) {
                Edges.refused(start, desk -> desk.drawn(m, 0), 1);
                Edges.refused(start, desk -> desk.drawn(m, 1), m);
                Edges.refused(start, desk -> desk.drawn(m, 2), 1);
            }
        }
    }

    static void p30_onceAndFortyTimes() {
        MorseDesk desk = Edges.of(Edges.RING);
        for (int m : new int[] {1, 40}) {
            due(desk.drawn(m, 0), 2);
            due(desk.drawn(m, 1), m);
            due(desk.drawn(m, 2), 2);
        }
    }

    static void p30_nothingThereButOne() {
        MorseDesk desk = Edges.onePoint();
        due(desk.drawn(40, 0), 1);
        due(desk.drawn(40, 1), 40);
        due(desk.drawn(40, 2), 1);
        due(Edges.of("a,b,c").drawn(3, 0), 3);
    }

    static void p30_xAtItsEnds() {
        Model model = new Model();
        for (int at = 0; at < KNOT.length(); at += 20) {
            int[] n = new int[5];
            for (int i = 0; i < 20 && at + i < KNOT.length(); i++) {
                n[i / 4] |= KNOT.charAt(at + i) << (24 - i % 4 * 8);
            }
            model.feed(n);
        }
        model.end(KNOT.length());
        MorseDesk desk = Edges.of(KNOT);
        due(desk.count(0), model.complex());
        for (int x : new int[] {0, 1, 65535, 65536, 1 << 30, Edges.MOST - 1, Edges.MOST}) {
            due(desk.draws(x), model.draws(x));
            for (int m : new int[] {1, 2, 3, 7, 40}) {
                for (int what = 0; what < 3; what++) {
                    due(desk.drawn(m, what), model.drawn(m, what));
                }
            }
            due(desk.count(8), x);
        }
    }

    /** What x becomes, by the words of the document. */
    private static int next(int x) {
        return (int) ((x * 1103515245L + 12345L) % 2147483648L);
    }

    static void p30_theFewestHowOftenTheMost() {
        MorseDesk desk = Edges.of(KNOT);
        due(desk.drawn(40, 0), 7);
        due(desk.drawn(40, 1), 30);
        due(desk.drawn(40, 2), 9);
        due(desk.drawn(40, 1), 30);
    }

    static void p30_xGoesOnFromRunToRun() {
        // Behind 2147483647 comes the rest of -1103515245 + 12345.
        due(next(Edges.MOST), 2147483648L - 1103515245L + 12345L);
        for (int begin : new int[] {0, 77, Edges.MOST}) {
            MorseDesk desk = Edges.of(KNOT);
            int size = desk.count(0);
            int x = begin;
            int fewest = size;
            int often = 0;
            int most = 0;
            for (int m = 1; m <= 40; m++) {
                desk.draws(x);
                int left = desk.drawn(1, 0);
                due(desk.drawn(1, 1), 1);
                due(desk.drawn(1, 2), left);
                often = left < fewest ? 1 : left == fewest ? often + 1 : often;
                fewest = Math.min(fewest, left);
                most = Math.max(most, left);
                // One DRAW for each PAIR and for each that stays CRITICAL.
                for (int i = 0; i < (size - left) / 2 + left; i++) {
                    x = next(x);
                }
                desk.draws(begin);
                due(desk.drawn(m, 0), fewest);
                due(desk.drawn(m, 1), often);
                due(desk.drawn(m, 2), most);
            }
            // Else this test would say little.
            due(fewest < most ? 1 : 0, 1);
        }
    }

    // 31: level.

    static void p31_below0() {
        for (int h : new int[] {-1, -2, Edges.LEAST}) {
            Edges.refusedOnAll(STARTS, desk -> desk.level(h, 0), NONE);
            Edges.refusedOnAll(STARTS, desk -> desk.level(h, 1), NONE);
        }
    }

    static void p31_noSuchWhat() {
        for (int what : new int[] {-1, 2, 3, Edges.LEAST, Edges.MOST}) {
            Edges.refusedOnAll(STARTS, desk -> desk.level(0, what), NONE);
        }
    }

    static void p31_0Simplices() {
        for (int h : new int[] {0, 1, Edges.MOST}) {
            Edges.refused(Edges.BARE, desk -> desk.level(h, 0), 0);
            Edges.refused(Edges.BARE, desk -> desk.level(h, 1), 0);
        }
    }

    static void p31_theLowestAndBeyondTheHighest() {
        long[] many = {3, 6, 7, 7};
        long[] euler = {3, 0, 1, 1};
        int[] heights = {0, 1, 2, Edges.MOST};
        for (int i = 0; i < 4; i++) {
            int h = heights[i];
            Edges.refused(PLAIN, desk -> desk.level(h, 0), many[i]);
            Edges.refused(PLAIN, desk -> desk.level(h, 1), euler[i]);
        }
    }

    static void p31_eulerBelow0() {
        MorseDesk desk = Edges.of("ab,ac,ad,bc,bd,cd");
        due(desk.level(0, 1), 4);
        due(desk.level(1, 1), -2);
        due(desk.count(5), -2);
    }

    static void p31_whatIsGoneIsLeftOut() {
        // Of height 0 are b and c, of 1 ac (to c) and bc, of 2 a.
        long[] many = {2, 4, 5, 5};
        for (int h = 0; h < 4; h++) {
            int asked = h;
            Edges.refused(GONE, desk -> desk.level(asked, 0), many[h]);
        }
        due(Edges.onePoint().level(0, 0), 1);
        due(Edges.onePoint().level(Edges.MOST, 1), 1);
    }

    static void p31_asHighAsALineOfPairs() {
        MorseDesk desk = Edges.of("ab,bc,cd,de,ef,fg,gh");
        for (int k = 0; k < 7; k++) {
            desk.pair(k, 8 + k);
        }
        for (int h = 0; h < 15; h++) {
            due(desk.level(h, 0), h + 1);
            due(desk.level(h, 1), h % 2 == 0 ? 1 : 0);
        }
        due(desk.level(15, 0), 15);
    }

    // 32: levelBetti.

    static void p32_below0() {
        for (int h : new int[] {-1, -2, Edges.LEAST}) {
            Edges.refusedOnAll(STARTS, desk -> desk.levelBetti(h, 0), NONE);
            Edges.refusedOnAll(STARTS, desk -> desk.levelBetti(h, 4), NONE);
        }
    }

    static void p32_aDimBeyond0To4() {
        for (int dim : new int[] {-1, 5, 6, 64, Edges.LEAST, Edges.MOST}) {
            Edges.refusedOnAll(STARTS, desk -> desk.levelBetti(0, dim), NONE);
            Edges.refusedOnAll(STARTS, desk -> desk.levelBetti(Edges.MOST, dim), NONE);
        }
    }

    static void p32_theLowestAndBeyondTheHighest() {
        Edges.refused(PLAIN, desk -> desk.levelBetti(0, 0), 3);
        Edges.refused(PLAIN, desk -> desk.levelBetti(1, 1), 1);
        Edges.refused(PLAIN, desk -> desk.levelBetti(2, 1), 0);
        Edges.refused(PLAIN, desk -> desk.levelBetti(Edges.MOST, 1), 0);
        Edges.refused(PLAIN, desk -> desk.levelBetti(Edges.MOST, 0), 1);
        Edges.refused(PLAIN, desk -> desk.levelBetti(2, 4), 0);
    }

    static void p32_facesThatAreHigherComeIn() {
        // Of height 1 is ab, which brings a in, though that is of height 2.
        Edges.refused(PAIRED, desk -> desk.levelBetti(0, 0), 2);
        Edges.refused(PAIRED, desk -> desk.levelBetti(1, 0), 1);
        Edges.refused(PAIRED, desk -> desk.levelBetti(1, 1), 0);
        Edges.refused(PAIRED, desk -> desk.levelBetti(3, 1), 1);
        Edges.refused(PAIRED, desk -> desk.levelBetti(4, 1), 0);
    }

    static void p32_facesOfTheLastSimplexComeIn() {
        // Of height 2 is abc, which brings bc in, its PARTNER of height 3.
        MorseDesk desk = Edges.of(Edges.SOLID);
        desk.pair(5, 6);
        due(desk.level(2, 0), 6);
        due(desk.levelBetti(2, 0), 1);
        due(desk.levelBetti(2, 1), 0);
        due(desk.levelBetti(2, 2), 0);
        due(desk.levelBetti(1, 0), 1);
        due(desk.levelBetti(1, 1), 0);
    }

    static void p32_noneOrOneThere() {
        for (int dim = 0; dim < 5; dim++) {
            int asked = dim;
            Edges.refused(Edges.BARE, desk -> desk.levelBetti(0, asked), 0);
            due(Edges.onePoint().levelBetti(0, dim), dim == 0 ? 1 : 0);
            due(Edges.onePoint().levelBetti(Edges.MOST, dim), dim == 0 ? 1 : 0);
        }
    }

    // 33: keep.

    static void p33_noSuchNumber() {
        for (int k : new int[] {-1, -2, 3, 4, 64, 65, Edges.LEAST, Edges.MOST}) {
            Edges.refusedOnAll(STARTS, desk -> desk.keep(k), NONE);
        }
    }

    static void p33_withoutAComplex() {
        for (int k = 0; k < 3; k++) {
            int asked = k;
            Edges.refused(Edges.BARE, desk -> desk.keep(asked), NONE);
            MorseDesk desk = new MorseDesk();
            due(desk.keep(k), NONE);
            due(desk.same(k), -2);
            Edges.tell(desk, "ab");
            due(desk.same(k), -2);
        }
    }

    static void p33_noPairsAndAllButOne() {
        for (int k = 0; k < 3; k++) {
            MorseDesk desk = Edges.of(Edges.SOLID);
            due(desk.keep(k), 0);
            due(desk.same(k), 0);
            desk.auto(0);
            due(desk.same(k), 0);
            due(desk.keep(k), 3);
            due(desk.same(k), 3);
        }
    }

    static void p33_eachNumberByItself() {
        MorseDesk desk = Edges.of("ab,bc");
        desk.keep(0);
        desk.pair(0, 3);
        desk.keep(1);
        desk.pair(1, 4);
        desk.keep(2);
        due(desk.same(0), 0);
        due(desk.same(1), 1);
        due(desk.same(2), 2);
        desk.part(0);
        due(desk.same(0), 0);
        due(desk.same(1), 0);
        due(desk.same(2), 1);
    }

    static void p33_isNoAct() {
        MorseDesk desk = Edges.of("ab");
        due(desk.keep(0), 0);
        due(desk.count(7), 0);
        due(desk.undo(), NONE);
    }

    static void p33_60Simplices() {
        MorseDesk desk = Edges.of(Edges.SIXTY);
        int left = desk.auto(1);
        for (int k = 0; k < 3; k++) {
            due(desk.keep(k), (60 - left) / 2);
            due(desk.same(k), (60 - left) / 2);
        }
    }

    // 34: same.

    static void p34_noSuchNumber() {
        for (int k : new int[] {-1, -2, 3, 4, 64, 65, Edges.LEAST, Edges.MOST}) {
            Edges.refusedOnAll(STARTS, desk -> desk.same(k), NONE);
        }
    }

    static void p34_nothingWasKeptThere() {
        Edges.refusedOnAll(STARTS, desk -> desk.same(2), -2);
        for (int k = 0; k < 3; k++) {
            due(new MorseDesk().same(k), -2);
            due(Edges.of("ab").same(k), -2);
        }
    }

    static void p34_keptOfAnEarlierComplex() {
        for (String text : new String[] {"a", "ab", Edges.SOLID}) {
            MorseDesk desk = PAIRED.make(false);
            desk.keep(2);
            Edges.tell(desk, text);
            for (int k = 0; k < 3; k++) {
                due(desk.same(k), -2);
            }
            due(desk.keep(1), 0);
            due(desk.same(0), -2);
            due(desk.same(1), 0);
            due(desk.same(2), -2);
        }
    }

    static void p34_keptAheadOfATextThatIsNone() {
        MorseDesk desk = PAIRED.make(false);
        due(Edges.tell(desk, "ab,"), -2 - 25);
        due(desk.same(0), 1);
        due(desk.same(1), 0);
        due(desk.same(2), -2);
    }

    static void p34_noPairsAreNotNothingKept() {
        MorseDesk desk = Edges.of("a");
        due(desk.same(1), -2);
        due(desk.keep(1), 0);
        due(desk.same(1), 0);
    }

    static void p34_oneOfBothInAnotherPair() {
        MorseDesk desk = Edges.of(Edges.SOLID);
        desk.pair(0, 3);
        desk.keep(0);
        desk.part(0);
        desk.pair(0, 4);
        due(desk.same(0), 0);
        desk.part(0);
        desk.pair(1, 3);
        due(desk.same(0), 0);
        desk.part(1);
        desk.pair(3, 6);
        due(desk.same(0), 0);
    }

    static void p34_keptPairsThatAreGone() {
        MorseDesk desk = Edges.of("ab");
        desk.pair(0, 2);
        desk.keep(0);
        desk.collapse(0);
        due(desk.same(0), 0);
        desk.undo();
        due(desk.same(0), 1);
    }

    // 35: count.

    static void p35_others() {
        for (int what : new int[] {-1, -2, 10, 11, 64, Edges.LEAST, Edges.MOST}) {
            Edges.refusedOnAll(STARTS, desk -> desk.count(what), NONE);
        }
    }

    static void p35_greatestDimWithout() {
        due(new MorseDesk().count(2), NONE);
        due(Edges.of("a").count(2), 0);
        due(Edges.of("abcde").count(2), 4);
        due(Edges.onePoint().count(2), 0);
        MorseDesk desk = Edges.of("abcde");
        desk.collapse(desk.free(0));
        due(desk.count(2), 3);
    }

    static void p35_allAndThere() {
        MorseDesk desk = Edges.onePoint();
        long[] want = {7, 1, 0, 0, 1, 1, 1, 3, 0, 0};
        for (int what = 0; what < 10; what++) {
            due(desk.count(what), want[what]);
        }
    }

    static void p35_60Simplices() {
        MorseDesk desk = Edges.of(Edges.SIXTY);
        due(desk.count(0), 60);
        due(desk.count(1), 60);
        due(desk.count(2), 4);
        due(desk.count(3), 0);
        due(desk.count(4), 60);
        due(desk.count(6), 2);
    }

    static void p35_eulerBelow0AndNone() {
        due(Edges.of("ab,ac,ad,bc,bd,cd").count(5), -2);
        due(Edges.of("ab,ac,ad,bc,bd").count(5), -1);
        due(new MorseDesk().count(5), 0);
        due(Edges.of(Edges.RING).count(5), 0);
    }

    static void p35_parts() {
        due(new MorseDesk().count(6), 0);
        due(Edges.of("a,b,c,d,e,f,g,h").count(6), 8);
        due(Edges.of("ab,cd,ef,gh").count(6), 4);
        due(Edges.of("ab,bc,cd,de,ef,fg,gh").count(6), 1);
        due(Edges.of("ah,bg,cf,de,abc").count(6), 2);
        MorseDesk desk = Edges.of("ab,cd");
        desk.collapse(0);
        due(desk.count(6), 2);
    }

    static void p35_actsBetween0And16() {
        MorseDesk desk = Edges.of("ab");
        for (int i = 0; i < 20; i++) {
            due(desk.count(7), Math.min(i, 16));
            desk.auto(0);
        }
        due(desk.count(7), 16);
    }

    static void p35_bytesBetween0And160() {
        MorseDesk desk = new MorseDesk();
        for (int i = 0; i <= 8; i++) {
            due(desk.count(9), 20 * i);
            desk.feed(0, 0, 0, 0, 0);
        }
        due(desk.count(9), 160);
    }

    static void p35_questionsChangeNothing() {
        for (int what = 0; what < 10; what++) {
            int asked = what;
            Edges.refusedOnAll(STARTS, desk -> 0 * desk.count(asked), 0);
        }
    }

    static void p35_the512thCall() {
        MorseDesk desk = new MorseDesk();
        desk.feed(0x61622C62, 0x632C6163, 0, 0, 0);
        desk.end(8);
        desk.complex();
        for (int call = 4; call < 512; call++) {
            int kind = call % 4;
            due(kind == 0 ? desk.pair(0, 3) : kind == 1 ? desk.auto(0) : kind == 2 ? desk.part(0) : desk.part(1),
                    kind == 0 ? 4 : kind == 1 ? 2 : kind == 2 ? 4 : 6);
        }
        due(desk.count(7), 16);
    }

    static void p35_128ComplexesInTurn() {
        MorseDesk desk = new MorseDesk();
        for (int i = 0; i < 128; i++) {
            boolean ring = i % 2 == 0;
            due(desk.feed(0x61622C62, 0x632C6163, 0, 0, 0), 20);
            due(desk.end(ring ? 8 : 5), ring ? 8 : 5);
            due(desk.complex(), ring ? 6 : 5);
            due(desk.auto(i % 3), ring ? 2 : 1);
        }
    }
}
