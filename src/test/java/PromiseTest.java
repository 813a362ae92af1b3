/** Each promise by hand: ordinary calls, the edges that the document names, and wrong inputs. */
public final class PromiseTest {
    private static final int NO_INT = Integer.MIN_VALUE;
    private static final long NO_LONG = Long.MIN_VALUE;
    private static final String RING = "ab,bc,ac";
    private static final String PLANE = "abc,abd,ace,aef,adf,bcf,bde,bef,cde,cdf";

    private static int wrong;
    private static int promise;
    private static int row;

    public static void main(String[] args) {
        aNewObject();
        feed();
        end();
        complex();
        faults();
        simplex();
        number();
        sign();
        pair();
        part();
        auto();
        cancel();
        collapse();
        undo();
        critical();
        paths();
        path();
        incidence();
        chain();
        root();
        through();
        squares();
        betti();
        torsion();
        slack();
        free();
        facet();
        link();
        room();
        draws();
        drawn();
        level();
        levelBetti();
        keep();
        same();
        count();
        gone();
        hold();
        System.out.println(wrong == 0 ? "all promises hold" : wrong + " answers are wrong");
        if (wrong != 0) {
            System.exit(1);
        }
    }

    private static void begin(int number) {
        promise = number;
        row = 0;
    }

    private static void due(long got, long want) {
        row++;
        if (got != want) {
            wrong++;
            System.out.println("promise " + promise + ", row " + row + ": answered " + got + ", due is " + want);
        }
    }

    /** A row of answers that are due one after the other. */
    private static void dueAll(long[] got, long... want) {
        due(got.length, want.length);
        for (int i = 0; i < Math.min(got.length, want.length); i++) {
            due(got[i], want[i]);
        }
    }

    private static int tell(MorseDesk desk, String text) {
        desk.end(0);
        for (int at = 0; at < text.length(); at += 20) {
            int[] n = new int[5];
            for (int i = 0; i < 20 && at + i < text.length(); i++) {
                n[i / 4] |= text.charAt(at + i) << (24 - i % 4 * 8);
            }
            desk.feed(n[0], n[1], n[2], n[3], n[4]);
        }
        desk.end(text.length());
        return desk.complex();
    }

    private static MorseDesk of(String text) {
        MorseDesk desk = new MorseDesk();
        tell(desk, text);
        return desk;
    }

    private static int fault(String text) {
        return -2 - tell(new MorseDesk(), text);
    }

    private static void aNewObject() {
        begin(1);
        MorseDesk desk = new MorseDesk();
        long[] want = {0, 0, -1, 0, 0, 0, 0, 0, 0, 0, -1};
        for (int what = 0; what < want.length; what++) {
            due(desk.count(what), want[what]);
        }
        due(desk.simplex(0, 0), -1);
        due(desk.number(1), -1);
        due(desk.auto(0), -1);
        due(desk.undo(), -1);
        due(desk.betti(0, 1), 0);
        due(desk.torsion(4, -1, 1), 0);
        due(desk.level(0, 0), 0);
        due(desk.drawn(1, 0), -1);
        due(desk.keep(0), -1);
        due(desk.same(0), -2);
        due(MorseDesk.NONE, -1);
    }

    private static void feed() {
        begin(2);
        MorseDesk desk = new MorseDesk();
        for (int i = 1; i <= 8; i++) {
            due(desk.feed(0x61202020, 0x20202020, 0x20202020, 0x20202020, 0x20202020), 20 * i);
        }
        due(desk.feed(0, 0, 0, 0, 0), -1);
        due(desk.count(9), 160);
        due(desk.end(141), 141);
        due(desk.feed(0, 0, 0, 0, 0), -1);
        due(desk.count(9), 141);
        due(desk.end(140), 140);
        due(desk.feed(0, 0, 0, 0, 0), 160);
        // The highest byte of each number comes first, and a byte above 127 stays what it is.
        MorseDesk order = new MorseDesk();
        order.feed(0x6162632C, 0x64652C66, 0x672C6820, 0x20202020, 0x20202020);
        due(order.complex(), 14);
        due(order.number(1 + 2 + 4), 13);
        due(order.number(8 + 16), 11);
        due(order.number(32 + 64), 12);
        order.feed(0xE1000000, 0, 0, 0, 0);
        due(order.complex(), -2 - 1);
    }

    private static void end() {
        begin(3);
        MorseDesk desk = new MorseDesk();
        due(desk.end(0), 0);
        due(desk.end(1), -1);
        due(desk.end(-1), -1);
        desk.feed(0x61616161, 0, 0, 0, 0);
        due(desk.end(21), -1);
        due(desk.count(9), 20);
        due(desk.end(Integer.MIN_VALUE), -1);
        due(desk.end(20), 20);
        due(desk.end(1), 1);
        due(desk.count(9), 1);
        due(desk.end(2), -1);
        due(desk.complex(), 1);
        due(desk.end(1), -1);
    }

    private static void complex() {
        begin(4);
        MorseDesk desk = new MorseDesk();
        due(tell(desk, "abc"), 7);
        due(desk.count(9), 0);
        due(desk.pair(0, 3), 5);
        due(desk.keep(0), 1);
        due(desk.draws(77), 0);
        due(tell(desk, "ab,b!"), -2 - (8 * 4 + 1));
        due(desk.count(9), 0);
        due(desk.count(0), 7);
        due(desk.count(3), 1);
        due(desk.count(7), 1);
        due(desk.same(0), 1);
        due(tell(desk, "dcba"), 15);
        due(desk.count(3), 0);
        due(desk.count(7), 0);
        due(desk.undo(), -1);
        due(desk.same(0), -2);
        due(desk.count(8), 77);
        due(tell(desk, "  a , cb  ,ab "), 5);
        due(tell(desk, "a,a,a,a,a,a,a,a,a,a,a,a,a,a,a,a,a,a,a,a,a,a,a,b"), 2);
        due(tell(desk, "abcde,abcdf,abcg"), 55);
        due(tell(desk, "abcde,abcdf,abefg,h"), -2 - (8 * 12 + 5));
        due(tell(desk, "abcde,abcdf,abcg,eg,deg,h,fg"), 60);
        due(desk.number(128), 7);
        due(tell(desk, "abcde,abcdf,abcg,eg,deg,h,fg,ag,ah,bh"), -2 - (8 * 32 + 5));
        due(desk.count(0), 60);
        due(desk.count(2), 4);
    }

    private static void faults() {
        due(fault(""), 1);
        due(fault("  "), 8 * 2 + 1);
        due(fault(","), 1);
        due(fault("a,"), 8 * 2 + 1);
        due(fault("a, "), 8 * 3 + 1);
        due(fault("a,,b"), 8 * 2 + 1);
        due(fault("a b"), 8 * 2 + 1);
        due(fault("i"), 1);
        due(fault("ab" + (char) 0), 8 * 2 + 1);
        due(fault("A"), 1);
        due(fault("aba"), 8 * 2 + 2);
        due(fault("abcdef"), 8 * 5 + 3);
        due(fault("abcdea"), 8 * 5 + 2);
        due(fault("abcdei"), 8 * 5 + 1);
        due(fault("abcde f"), 8 * 6 + 1);
        String many = "a,".repeat(24);
        due(fault(many), 8 * 48 + 1);
        due(fault(many + "b"), 8 * 48 + 4);
        due(fault(many + "  b"), 8 * 50 + 4);
        due(fault(many + "  !"), 8 * 50 + 1);
        due(fault(many + "bb"), 8 * 48 + 4);
        // Two faults at one place: the least.
        String big = "abcde,abcdf" + ",a".repeat(22);
        due(fault(big + ",aefgh"), 8 * 56 + 4);
        // What is behind a facet with which there are too many is not asked; what is within it is.
        String full = "abcde,bcdef,";
        due(fault(full + "abcdg"), 8 * 12 + 5);
        due(fault(full + "abcdg!"), 8 * 12 + 5);
        due(fault(full + "abcdgi"), 8 * 12 + 5);
        due(fault(full + "abcdg b"), 8 * 12 + 5);
        due(fault(full + " abcdg"), 8 * 13 + 5);
        due(fault(full + "abcdgd"), 8 * 17 + 2);
        due(fault(full + "abcdgh"), 8 * 17 + 3);
    }

    private static void simplex() {
        begin(5);
        MorseDesk desk = of("abc");
        for (int k = 0; k < 7; k++) {
            due(desk.simplex(k, 0), new int[] {1, 2, 4, 3, 5, 6, 7}[k]);
            due(desk.simplex(k, 1), new int[] {0, 0, 0, 1, 1, 1, 2}[k]);
            due(desk.simplex(k, 2), 1);
            due(desk.simplex(k, 3), -1);
            due(desk.simplex(k, 4), -1);
            due(desk.simplex(k, 5), new int[] {0, 0, 0, 1, 1, 1, 2}[k]);
            due(desk.simplex(k, 6), new int[] {2, 2, 2, 1, 1, 1, 0}[k]);
        }
        due(desk.pair(3, 6), 5);
        due(desk.simplex(3, 3), 6);
        due(desk.simplex(6, 3), 3);
        due(desk.simplex(3, 4), 1);
        due(desk.simplex(6, 4), 0);
        // ab goes up to abc, from there to ac or bc, and to a point.
        due(desk.simplex(3, 5), 3);
        due(desk.simplex(6, 5), 2);
        due(desk.simplex(4, 5), 1);
        due(desk.collapse(4), 5);
        due(desk.simplex(4, 2), 0);
        due(desk.simplex(4, 0), 5);
        due(desk.simplex(4, 1), 1);
        due(desk.simplex(4, 5), -1);
        due(desk.simplex(4, 6), 0);
        due(desk.simplex(3, 3), -1);
        due(desk.simplex(3, 4), -1);
        due(desk.simplex(3, 6), 0);
        due(desk.simplex(0, 6), 1);
        due(desk.simplex(-1, 0), -1);
        due(desk.simplex(7, 0), -1);
        due(desk.simplex(0, -1), -1);
        due(desk.simplex(0, 7), -1);
        due(desk.simplex(Integer.MAX_VALUE, 5), -1);
    }

    private static void number() {
        begin(6);
        MorseDesk desk = of("bdh,ah");
        for (int k = 0; k < desk.count(0); k++) {
            due(desk.number(desk.simplex(k, 0)), k);
        }
        due(desk.number(128), 3);
        due(desk.number(1), 0);
        due(desk.number(4), -1);
        due(desk.number(0), -1);
        due(desk.number(-1), -1);
        due(desk.number(256), -1);
        due(desk.number(257), -1);
        due(desk.number(Integer.MIN_VALUE), -1);
        due(tell(desk, "c"), 1);
        due(desk.number(128), -1);
        due(desk.number(4), 0);
    }

    private static void sign() {
        begin(7);
        MorseDesk desk = of("bcdfh");
        int all = desk.number(2 + 4 + 8 + 32 + 128);
        due(all, 30);
        due(desk.sign(desk.number(4 + 8 + 32 + 128), all), 1);
        due(desk.sign(desk.number(2 + 8 + 32 + 128), all), -1);
        due(desk.sign(desk.number(2 + 4 + 32 + 128), all), 1);
        due(desk.sign(desk.number(2 + 4 + 8 + 128), all), -1);
        due(desk.sign(desk.number(2 + 4 + 8 + 32), all), 1);
        due(desk.sign(desk.number(2 + 4 + 8), all), 0);
        due(desk.sign(all, all), 0);
        due(desk.sign(all, 0), 0);
        due(desk.sign(0, 0), 0);
        due(desk.sign(31, all), NO_INT);
        due(desk.sign(0, 31), NO_INT);
        due(desk.sign(-1, 0), NO_INT);
        due(desk.sign(0, -1), NO_INT);
        int gone = desk.number(2 + 4 + 8 + 32);
        due(desk.collapse(gone), 29);
        due(desk.sign(gone, all), 1);
    }

    private static void pair() {
        begin(8);
        MorseDesk desk = of(RING);
        due(desk.pair(0, 3), 4);
        due(desk.pair(1, 5), 2);
        due(desk.pair(2, 4), -2);
        due(desk.count(3), 2);
        due(desk.count(7), 2);
        due(desk.pair(2, 3), -1);
        due(desk.pair(4, 2), -1);
        due(desk.pair(0, 4), -1);
        due(desk.pair(2, 5), -1);
        due(desk.pair(2, 2), -1);
        due(desk.pair(-1, 4), -1);
        due(desk.pair(2, 6), -1);
        due(desk.pair(Integer.MIN_VALUE, Integer.MAX_VALUE), -1);
        due(desk.part(0), 4);
        due(desk.pair(2, 4), 2);
        MorseDesk gone = of("ab");
        due(gone.collapse(0), 1);
        due(gone.pair(0, 2), -1);
        due(gone.pair(1, 2), -1);
        due(gone.count(7), 1);
        // A cycle among triangles around a point: abc, acd, abd by ac, ad, ab.
        MorseDesk fan = of("abc,acd,abd");
        due(fan.pair(fan.number(5), fan.number(7)), 11);
        due(fan.pair(fan.number(9), fan.number(13)), 9);
        due(fan.pair(fan.number(3), fan.number(11)), -2);
        due(fan.pair(fan.number(10), fan.number(11)), 7);
    }

    private static void part() {
        begin(9);
        MorseDesk desk = of("abc");
        due(desk.part(0), -1);
        due(desk.pair(0, 3), 5);
        due(desk.pair(5, 6), 3);
        due(desk.part(3), 5);
        due(desk.simplex(0, 3), -1);
        due(desk.part(0), -1);
        due(desk.part(5), 7);
        due(desk.part(6), -1);
        due(desk.part(-1), -1);
        due(desk.part(7), -1);
        due(desk.count(7), 4);
    }

    private static long[] partners(MorseDesk desk) {
        long[] all = new long[desk.count(0)];
        for (int k = 0; k < all.length; k++) {
            all[k] = desk.simplex(k, 3);
        }
        return all;
    }

    private static void auto() {
        begin(10);
        MorseDesk desk = of(RING);
        due(desk.auto(0), 2);
        dueAll(partners(desk), 3, 5, -1, 0, -1, 1);
        due(desk.auto(1), 2);
        dueAll(partners(desk), 4, -1, 5, -1, 0, 2);
        due(desk.auto(2), 2);
        dueAll(partners(desk), 4, 3, -1, 1, 0, -1);
        due(desk.auto(3), -1);
        due(desk.auto(-1), -1);
        dueAll(partners(desk), 4, 3, -1, 1, 0, -1);
        due(desk.count(7), 3);
        // abc: by 0, a takes ab, b takes bc, ac takes abc; by 1, abc takes bc, ac takes c, ab takes b.
        MorseDesk solid = of("abc");
        due(solid.auto(0), 1);
        dueAll(partners(solid), 3, 5, -1, 0, 6, 1, 4);
        due(solid.auto(1), 1);
        dueAll(partners(solid), -1, 3, 4, 1, 2, 6, 5);
        due(solid.auto(2), 1);
        dueAll(partners(solid), 4, 5, -1, 6, 0, 1, 3);
        due(solid.count(7), 3);
        // Earlier pairs are not kept, and what is gone takes no part.
        due(solid.collapse(5), 5);
        due(solid.auto(0), 1);
        dueAll(partners(solid), 3, -1, 4, 0, 2, -1, -1);
    }

    private static void cancel() {
        begin(11);
        MorseDesk desk = of("abc");
        due(desk.pair(0, 3), 5);
        due(desk.pair(1, 5), 3);
        // ac, a, ab, b, bc, c and ac, c: two ways.
        due(desk.cancel(4, 2), -2);
        due(desk.cancel(2, 4), -1);
        due(desk.cancel(6, 2), -1);
        due(desk.cancel(4, 0), -1);
        due(desk.cancel(4, -1), -1);
        due(desk.cancel(7, 2), -1);
        due(desk.cancel(6, 4), 1);
        due(desk.simplex(6, 3), 4);
        due(desk.count(7), 3);
        // A long way is turned about: in a row of edges from d to a.
        MorseDesk line = of("ab,bc,cd");
        due(line.pair(1, 4), 5);
        due(line.pair(2, 5), 3);
        due(line.paths(6, 0), 1);
        due(line.cancel(6, 0), 1);
        dueAll(partners(line), 4, 5, 6, -1, 0, 1, 2);
        due(line.cancel(6, 3), -1);
        MorseDesk apart = of("ab,c");
        due(apart.cancel(3, 2), -2);
        due(apart.cancel(3, 1), 2);
    }

    private static void collapse() {
        begin(12);
        MorseDesk desk = of("abc");
        due(desk.pair(0, 3), 5);
        due(desk.pair(5, 6), 3);
        due(desk.collapse(0), -2);
        due(desk.collapse(6), -2);
        due(desk.collapse(-1), -1);
        due(desk.collapse(7), -1);
        due(desk.count(7), 2);
        due(desk.collapse(3), 5);
        due(desk.simplex(0, 3), -1);
        due(desk.simplex(5, 3), -1);
        due(desk.count(4), 5);
        due(desk.collapse(3), -1);
        due(desk.collapse(6), -1);
        due(desk.collapse(2), -2);
        due(desk.collapse(0), 3);
        due(desk.collapse(1), 1);
        due(desk.collapse(2), -2);
        due(of(RING).collapse(0), -2);
    }

    private static void undo() {
        begin(13);
        MorseDesk desk = of("abc");
        due(desk.undo(), -1);
        due(desk.pair(0, 3), 5);
        due(desk.pair(5, 6), 3);
        due(desk.collapse(4), 5);
        due(desk.auto(1), 1);
        due(desk.undo(), 3);
        dueAll(partners(desk), 3, -1, -1, 0, -1, -1, -1);
        due(desk.undo(), 2);
        dueAll(partners(desk), 3, -1, -1, 0, -1, 6, 5);
        due(desk.count(1), 7);
        due(desk.part(0), 5);
        due(desk.cancel(3, 1), 3);
        due(desk.undo(), 3);
        dueAll(partners(desk), -1, -1, -1, -1, -1, 6, 5);
        due(desk.undo(), 2);
        due(desk.undo(), 1);
        due(desk.undo(), 0);
        due(desk.undo(), -1);
        due(desk.count(4), 7);
        for (int i = 0; i < 20; i++) {
            desk.pair(0, 3);
            desk.part(3);
        }
        due(desk.count(7), 16);
        for (int i = 15; i >= 0; i--) {
            due(desk.undo(), i);
            due(desk.count(3), i % 2);
        }
        due(desk.undo(), -1);
    }

    private static void critical() {
        begin(14);
        MorseDesk desk = of(RING);
        due(desk.critical(0, -1), 3);
        due(desk.critical(1, 2), 5);
        due(desk.critical(1, 3), -2);
        due(desk.critical(2, -1), 0);
        due(desk.critical(4, 0), -2);
        due(desk.critical(5, -1), -1);
        due(desk.critical(-1, -1), -1);
        due(desk.critical(0, -2), -1);
        due(desk.critical(0, Integer.MAX_VALUE), -2);
        desk.pair(0, 3);
        due(desk.critical(0, 0), 1);
        due(desk.critical(0, 1), 2);
        due(desk.critical(1, 0), 4);
        MorseDesk gone = of("abc");
        gone.collapse(3);
        due(gone.critical(1, 0), 4);
        due(gone.critical(2, -1), 0);
    }

    private static MorseDesk ringByHand() {
        MorseDesk desk = of(RING);
        desk.pair(0, 3);
        desk.pair(1, 5);
        return desk;
    }

    private static void paths() {
        begin(15);
        MorseDesk desk = ringByHand();
        due(desk.paths(4, 2), 2);
        due(desk.paths(2, 4), -1);
        due(desk.paths(4, 4), -1);
        due(desk.paths(4, 0), -1);
        due(desk.paths(3, 2), -1);
        due(desk.paths(-1, 2), -1);
        due(desk.paths(4, 6), -1);
        MorseDesk plain = of("abc");
        due(plain.paths(6, 3), 1);
        due(plain.paths(6, 0), -1);
        due(plain.paths(5, 0), 0);
    }

    private static void path() {
        begin(16);
        MorseDesk desk = ringByHand();
        due(desk.path(4, 2, 0, -1), 6);
        int[] first = {4, 0, 3, 1, 5, 2};
        for (int i = 0; i < first.length; i++) {
            due(desk.path(4, 2, 0, i), first[i]);
        }
        due(desk.path(4, 2, 0, 6), -2);
        due(desk.path(4, 2, 0, Integer.MAX_VALUE), -2);
        due(desk.path(4, 2, 1, -1), 2);
        due(desk.path(4, 2, 1, 0), 4);
        due(desk.path(4, 2, 1, 1), 2);
        due(desk.path(4, 2, 2, -1), -2);
        due(desk.path(4, 2, Integer.MAX_VALUE, 0), -2);
        due(desk.path(4, 2, -1, 0), -1);
        due(desk.path(4, 2, 0, -2), -1);
        due(desk.path(2, 4, 0, 0), -1);
        due(desk.path(4, 1, 0, 0), -1);
        due(of("abc").path(5, 0, 0, 0), -2);
    }

    private static void incidence() {
        begin(17);
        MorseDesk desk = ringByHand();
        due(desk.incidence(4, 2), 0);
        due(desk.incidence(2, 4), NO_LONG);
        due(desk.incidence(4, 0), NO_LONG);
        due(desk.incidence(-1, 0), NO_LONG);
        due(desk.incidence(4, 99), NO_LONG);
        MorseDesk solid = of("abc");
        due(solid.incidence(6, 3), 1);
        due(solid.incidence(6, 4), -1);
        due(solid.incidence(6, 5), 1);
        due(solid.incidence(3, 2), 0);
        // In the projective plane two ways of one sign are left from the triangle to the edge.
        MorseDesk plane = of(PLANE);
        due(plane.auto(2), 3);
        int top = plane.critical(2, 0);
        int edge = plane.critical(1, 0);
        due(plane.paths(top, edge), 2);
        due(Math.abs(plane.incidence(top, edge)), 2);
        due(plane.incidence(edge, plane.critical(0, 0)), 0);
        due(plane.cancel(top, edge), -2);
    }

    private static void chain() {
        begin(18);
        MorseDesk desk = ringByHand();
        due(desk.chain(4, 4), 1);
        due(desk.chain(4, 3), -1);
        due(desk.chain(4, 5), -1);
        due(desk.chain(2, 2), 1);
        due(desk.chain(2, 0), 0);
        due(desk.chain(4, 0), NO_LONG);
        due(desk.chain(3, 4), NO_LONG);
        due(desk.chain(4, 6), NO_LONG);
        due(desk.chain(-1, 4), NO_LONG);
        due(desk.chain(9, 4), NO_LONG);
        // What the chain of the sphere's one triangle makes is a cycle of all four.
        MorseDesk sphere = of("abc,abd,acd,bcd");
        due(sphere.auto(0), 2);
        int top = sphere.critical(2, 0);
        for (int edge = 4; edge < 10; edge++) {
            long sum = 0;
            for (int k = 10; k < 14; k++) {
                due(Math.abs(sphere.chain(top, k)), 1);
                sum += sphere.chain(top, k) * sphere.sign(edge, k);
            }
            due(sum, 0);
        }
        MorseDesk gone = of("abc");
        due(gone.chain(4, 3), 0);
        due(gone.collapse(3), 5);
        due(gone.chain(4, 3), NO_LONG);
        due(gone.chain(3, 4), NO_LONG);
        due(gone.chain(3, 3), NO_LONG);
        due(gone.chain(6, 6), NO_LONG);
        due(gone.chain(4, 4), 1);
        due(gone.chain(4, 5), 0);
        due(gone.undo(), 0);
        due(gone.chain(4, 3), 0);
        due(gone.chain(3, 4), 0);
    }

    private static void root() {
        begin(19);
        MorseDesk desk = ringByHand();
        due(desk.root(0, 0), 2);
        due(desk.root(0, 1), 2);
        due(desk.root(1, 0), 2);
        due(desk.root(1, 1), 1);
        due(desk.root(2, 0), 2);
        due(desk.root(2, 1), 0);
        due(desk.root(3, 0), -1);
        due(desk.root(0, 2), -1);
        due(desk.root(0, -1), -1);
        due(desk.root(-1, 0), -1);
        due(desk.root(6, 0), -1);
        MorseDesk gone = of("ab,bc");
        due(gone.pair(0, 3), 3);
        due(gone.root(0, 0), 1);
        due(gone.collapse(0), 3);
        due(gone.root(0, 0), -1);
        due(gone.root(1, 0), 1);
    }

    private static void through() {
        begin(20);
        MorseDesk desk = ringByHand();
        long[] want = {1, 1, 2, 1, 2, 1};
        for (int k = 0; k < 6; k++) {
            due(desk.through(4, 2, k), want[k]);
        }
        due(desk.through(4, 2, 6), -1);
        due(desk.through(4, 2, -1), -1);
        due(desk.through(2, 4, 0), -1);
        due(desk.through(4, 1, 0), -1);
        MorseDesk solid = of("abc");
        due(solid.through(6, 3, 0), 0);
        due(solid.through(6, 3, 4), 0);
        due(solid.through(6, 3, 3), 1);
        due(solid.collapse(3), 5);
        due(solid.through(4, 0, 3), -1);
        due(solid.through(4, 0, 5), 0);
    }

    private static void squares() {
        begin(21);
        due(new MorseDesk().squares(), 0);
        MorseDesk desk = of(PLANE);
        due(desk.squares(), 0);
        for (int how = 0; how < 3; how++) {
            desk.auto(how);
            due(desk.squares(), 0);
        }
        MorseDesk big = of("abcde,bcdef");
        due(big.squares(), 0);
        due(big.pair(big.number(3), big.number(7)), 45);
        due(big.pair(big.number(5), big.number(13)), 43);
        due(big.pair(big.number(9), big.number(25)), 41);
        due(big.squares(), 0);
    }

    private static void dueBetti(MorseDesk desk, int... want) {
        for (int dim = 0; dim < 5; dim++) {
            int number = dim < want.length ? want[dim] : 0;
            due(desk.betti(dim, 0), number);
            due(desk.betti(dim, 1), number);
        }
    }

    private static void betti() {
        begin(22);
        MorseDesk desk = of(RING);
        dueBetti(desk, 1, 1);
        desk.auto(0);
        dueBetti(desk, 1, 1);
        due(desk.betti(-1, 0), -1);
        due(desk.betti(5, 0), -1);
        due(desk.betti(0, 2), -1);
        due(desk.betti(0, -1), -1);
        dueBetti(of("a,b,c,d,e,f,g,h"), 8);
        dueBetti(of("abcd,abce,abde,acde,bcde,fgh"), 2, 0, 0, 1);
        dueBetti(of("abc,abd,acd,bcd"), 1, 0, 1);
        dueBetti(of(PLANE), 1);
        MorseDesk torus = of("abd,bce,cdf,deg,efa,fgb,gac,acd,bde,cef,dfg,ega,fab,gbc");
        dueBetti(torus, 1, 2, 1);
        for (int how = 0; how < 3; how++) {
            torus.auto(how);
            dueBetti(torus, 1, 2, 1);
        }
        dueBetti(of("abcde"), 1);
        dueBetti(new MorseDesk());
    }

    private static void torsion() {
        begin(23);
        MorseDesk desk = of(PLANE);
        for (int how = -1; how < 3; how++) {
            desk.auto(how);
            for (int which = 0; which < 2; which++) {
                due(desk.torsion(1, -1, which), 1);
                due(desk.torsion(1, 0, which), 2);
                due(desk.torsion(1, 1, which), -2);
                due(desk.torsion(0, -1, which), 0);
                due(desk.torsion(2, 0, which), -2);
                due(desk.torsion(4, -1, which), 0);
            }
        }
        // 28 edges at 8 points, and triangles that leave 3 and 4.
        String[] twisted = {
            "abg,abh,acd,acg,ade,aeh,agh,bce,bcf,bdf,bdh,beh,cdh,ceg,cfh,deg,dfg,dgh,efg,efh",
            "abf,abh,acd,ace,adf,aeh,bcf,bch,bdg,bdh,beg,bfg,cdg,cef,cgh,def,deg,dfh,egh,fgh",
        };
        for (int i = 0; i < twisted.length; i++) {
            MorseDesk twist = of(twisted[i]);
            for (int how = -1; how < 3; how++) {
                twist.auto(how);
                for (int which = 0; which < 2; which++) {
                    due(twist.torsion(1, -1, which), 1);
                    due(twist.torsion(1, 0, which), 3 + i);
                    due(twist.torsion(0, -1, which), 0);
                }
            }
        }
        due(desk.torsion(1, -2, 0), -1);
        due(desk.torsion(5, 0, 0), -1);
        due(desk.torsion(-1, -1, 0), -1);
        due(desk.torsion(1, 0, 2), -1);
        due(desk.torsion(1, 0, -1), -1);
        due(of("abcde").torsion(1, -1, 0), 0);
        due(new MorseDesk().torsion(0, -1, 1), 0);
    }

    private static void slack() {
        begin(24);
        MorseDesk desk = of("abc");
        long[] want = {2, 1, 0, 0, 0};
        for (int dim = 0; dim < 5; dim++) {
            due(desk.slack(dim), want[dim]);
        }
        due(desk.slack(-1), NO_INT);
        due(desk.slack(5), NO_INT);
        desk.pair(0, 3);
        due(desk.slack(0), 1);
        due(desk.slack(1), 1);
        desk.auto(0);
        due(desk.slack(0), 0);
        due(desk.slack(1), 0);
        // Dims may be short: three points and no more hold none.
        due(of("a,b,c").slack(3), 0);
        // Points 5, edges 10, triangles 10, and so on: 5 - 1, (10 - 5) + 1, ..
        MorseDesk solid = of("abcde");
        long[] all = {4, 6, 4, 1, 0};
        for (int dim = 0; dim < 5; dim++) {
            due(solid.slack(dim), all[dim]);
        }
        due(new MorseDesk().slack(4), 0);
    }

    private static void free() {
        begin(25);
        MorseDesk desk = of("abc,cd");
        // ab, ac, bc, and the point d.
        due(desk.free(-1), 4);
        due(desk.free(0), 3);
        due(desk.free(1), 4);
        due(desk.free(3), desk.number(6));
        due(desk.free(4), -2);
        due(desk.free(-2), -1);
        due(desk.collapse(3), 7);
        due(desk.free(-1), 3);
        due(desk.free(0), 4);
        due(desk.collapse(4), 5);
        due(desk.free(-1), 2);
        due(desk.free(0), 0);
        due(desk.free(1), 1);
        due(of(RING).free(-1), 0);
        due(of(RING).free(0), -2);
        due(new MorseDesk().free(-1), 0);
    }

    private static void facet() {
        begin(26);
        MorseDesk desk = of("abc,cd,ab,e");
        due(desk.facet(-1), 3);
        due(desk.facet(0), desk.number(16));
        due(desk.facet(1), desk.number(12));
        due(desk.facet(2), desk.number(7));
        due(desk.facet(3), -2);
        due(desk.facet(-2), -1);
        desk.collapse(desk.number(3));
        due(desk.facet(-1), 4);
        due(desk.facet(1), desk.number(5));
        due(new MorseDesk().facet(-1), 0);
    }

    private static void link() {
        begin(27);
        MorseDesk desk = of("abc,abd,acd,bcd,e");
        due(desk.link(0, 0), 6);
        due(desk.link(0, 1), 0);
        due(desk.link(desk.number(3), 0), 2);
        due(desk.link(desk.number(3), 1), 2);
        due(desk.link(desk.number(7), 0), 0);
        due(desk.link(desk.number(7), 1), 0);
        due(desk.link(desk.number(16), 0), 0);
        due(desk.link(0, 2), NO_INT);
        due(desk.link(0, -1), NO_INT);
        due(desk.link(-1, 0), NO_INT);
        due(desk.link(15, 0), NO_INT);
        // Of d: the points a, b, c, e, f, and the edges ab, bc, ac.
        MorseDesk below = of("ad,bd,cd,ab,bc,ac,abd,bcd,acd,de,ef,df,ae,be,abe");
        due(below.link(below.number(8), 0), 8);
        due(below.link(below.number(8), 1), 2);
        MorseDesk gone = of("abc");
        due(gone.link(0, 0), 3);
        gone.collapse(5);
        due(gone.link(0, 0), 2);
        due(gone.link(5, 0), NO_INT);
        MorseDesk negative = of("hab,hbc,hcd,hda,hac,hbd");
        due(negative.link(negative.number(128), 1), -2);
    }

    private static void room() {
        begin(28);
        MorseDesk desk = of(RING);
        due(desk.room(0), 6);
        due(desk.room(1), 0);
        due(desk.room(4), 0);
        due(desk.room(5), -1);
        due(desk.room(-1), -1);
        desk.pair(0, 3);
        due(desk.room(0), 3);
        desk.pair(1, 5);
        // c and ac would close the ring.
        due(desk.room(0), 0);
        due(of("abcde").room(3), 5);
        due(of("abcde").room(1), 30);
        MorseDesk gone = of("abc");
        gone.collapse(3);
        due(gone.room(1), 0);
        due(gone.room(0), 4);
        due(new MorseDesk().room(0), 0);
    }

    private static void draws() {
        begin(29);
        MorseDesk desk = new MorseDesk();
        due(desk.draws(5), 0);
        due(desk.draws(-1), -1);
        due(desk.draws(Integer.MIN_VALUE), -1);
        due(desk.count(8), 5);
        due(desk.draws(Integer.MAX_VALUE), 5);
        due(desk.draws(0), Integer.MAX_VALUE);
        due(desk.count(7), 0);
    }

    private static void drawn() {
        begin(30);
        MorseDesk desk = of(RING);
        due(desk.draws(9), 0);
        due(desk.pair(0, 3), 4);
        due(desk.drawn(40, 0), 2);
        due(desk.drawn(40, 1), 40);
        due(desk.drawn(40, 2), 2);
        due(desk.count(8), 9);
        due(desk.count(3), 1);
        due(desk.count(7), 1);
        due(desk.drawn(0, 0), -1);
        due(desk.drawn(41, 0), -1);
        due(desk.drawn(1, 3), -1);
        due(desk.drawn(1, -1), -1);
        due(desk.drawn(Integer.MIN_VALUE, 0), -1);
        // Draws matter here: not each run is as good as the other ones.
        MorseDesk knot = of("abd,abg,abh,ace,acf,acg,adf,aeh,bcd,bce,bch,beg,cdg,cfh,deg,deh,dfh");
        Model model = new Model();
        String text = "abd,abg,abh,ace,acf,acg,adf,aeh,bcd,bce,bch,beg,cdg,cfh,deg,deh,dfh";
        for (int at = 0; at < text.length(); at += 20) {
            int[] n = new int[5];
            for (int i = 0; i < 20 && at + i < text.length(); i++) {
                n[i / 4] |= text.charAt(at + i) << (24 - i % 4 * 8);
            }
            model.feed(n);
        }
        model.end(text.length());
        due(knot.count(0), model.complex());
        for (int x = 0; x < 6; x++) {
            due(knot.draws(x * 1000), model.draws(x * 1000));
            for (int what = 0; what < 3; what++) {
                due(knot.drawn(10 + x, what), model.drawn(10 + x, what));
            }
        }
    }

    private static void level() {
        begin(31);
        MorseDesk desk = of("abc");
        due(desk.level(0, 0), 3);
        due(desk.level(0, 1), 3);
        due(desk.level(1, 0), 6);
        due(desk.level(1, 1), 0);
        due(desk.level(2, 0), 7);
        due(desk.level(Integer.MAX_VALUE, 1), 1);
        due(desk.level(-1, 0), -1);
        due(desk.level(0, 2), -1);
        due(desk.level(0, -1), -1);
        desk.pair(0, 3);
        // a goes up to ab and down to b.
        due(desk.level(0, 0), 2);
        due(desk.level(1, 0), 4);
        due(desk.level(1, 1), 0);
        due(desk.level(2, 0), 5);
        desk.collapse(4);
        due(desk.level(9, 0), 5);
        due(new MorseDesk().level(3, 1), 0);
    }

    private static void levelBetti() {
        begin(32);
        MorseDesk desk = of("abc");
        due(desk.levelBetti(0, 0), 3);
        due(desk.levelBetti(1, 0), 1);
        due(desk.levelBetti(1, 1), 1);
        due(desk.levelBetti(2, 1), 0);
        due(desk.levelBetti(2, 4), 0);
        due(desk.levelBetti(-1, 0), -1);
        due(desk.levelBetti(0, 5), -1);
        due(desk.levelBetti(0, -1), -1);
        desk.pair(0, 3);
        // Of height 1: ab, which brings a in, and bc.
        due(desk.levelBetti(0, 0), 2);
        due(desk.levelBetti(1, 0), 1);
        due(desk.levelBetti(1, 1), 0);
        due(desk.levelBetti(3, 1), 1);
        due(desk.levelBetti(4, 1), 0);
        due(new MorseDesk().levelBetti(0, 0), 0);
    }

    private static void keep() {
        begin(33);
        MorseDesk desk = of("abc");
        due(desk.keep(0), 0);
        due(desk.same(0), 0);
        desk.auto(0);
        due(desk.keep(2), 3);
        due(desk.keep(3), -1);
        due(desk.keep(-1), -1);
        due(desk.count(7), 1);
        desk.part(0);
        due(desk.keep(0), 2);
        due(desk.undo(), 1);
        due(desk.same(0), 2);
        due(desk.same(2), 3);
        due(desk.same(1), -2);
        due(new MorseDesk().keep(0), -1);
    }

    private static void same() {
        begin(34);
        MorseDesk desk = of("ab");
        due(desk.same(1), -2);
        due(desk.same(3), -1);
        due(desk.same(-1), -1);
        desk.pair(0, 2);
        due(desk.keep(1), 1);
        due(desk.same(1), 1);
        desk.part(2);
        due(desk.same(1), 0);
        desk.pair(1, 2);
        due(desk.same(1), 0);
        due(desk.undo(), 2);
        due(desk.undo(), 1);
        due(desk.same(1), 1);
        due(desk.collapse(1), 1);
        due(desk.same(1), 0);
        due(tell(desk, "!"), -3);
        due(desk.same(1), 0);
        due(tell(desk, "ab"), 3);
        due(desk.same(1), -2);
    }

    private static void count() {
        begin(35);
        MorseDesk desk = of("abc,cd,ef");
        desk.pair(0, desk.number(3));
        desk.draws(11);
        desk.feed(0, 0, 0, 0, 0);
        long[] want = {12, 12, 2, 1, 10, 2, 2, 1, 11, 20};
        for (int what = 0; what < want.length; what++) {
            due(desk.count(what), want[what]);
        }
        due(desk.count(10), -1);
        due(desk.count(-1), -1);
        desk.collapse(desk.number(3));
        due(desk.count(0), 12);
        due(desk.count(1), 10);
        due(desk.count(2), 1);
        due(desk.count(3), 0);
        due(desk.count(4), 10);
        due(desk.count(5), 2);
        due(desk.count(7), 2);
        due(of("a,b,c,d,e,f,g,h").count(6), 8);
        due(of("ab,cd,bc").count(6), 1);
    }

    /** In "abc" the edge ab (3) and the triangle (6) are GONE: each call that takes a number, with these. */
    private static void gone() {
        begin(5);
        MorseDesk desk = of("abc");
        due(desk.pair(3, 6), 5);
        due(desk.keep(0), 1);
        due(desk.collapse(3), 5);
        for (int k = 3; k <= 6; k += 3) {
            long[] got = new long[8];
            for (int what = 0; what < 8; what++) {
                got[what] = desk.simplex(k, what);
            }
            dueAll(got, k == 3 ? 3 : 7, k == 3 ? 1 : 2, 0, -1, -1, -1, 0, -1);
            due(desk.part(k), -1);
            due(desk.collapse(k), -1);
            due(desk.root(k, 0), -1);
            due(desk.link(k, 0), NO_INT);
            due(desk.link(k, 1), NO_INT);
        }
        due(desk.sign(3, 6), 1);
        due(desk.sign(0, 3), -1);
        due(desk.pair(3, 6), -1);
        due(desk.pair(0, 3), -1);
        due(desk.pair(4, 6), -1);
        due(desk.count(7), 2);
        goneEnds(desk, 6, 3);
        goneEnds(desk, 6, 4);
        goneEnds(desk, 3, 0);
        due(desk.through(4, 0, 3), -1);
        due(desk.through(4, 0, 6), -1);
        due(desk.chain(4, 3), NO_LONG);
        due(desk.same(0), 0);
        due(desk.critical(1, -1), 2);
        due(desk.critical(2, -1), 0);
        due(desk.level(2, 0), 5);
        due(desk.levelBetti(2, 1), 0);
        due(desk.room(0), 4);
        due(desk.room(1), 0);
        due(desk.slack(1), 0);
        due(desk.count(0), 7);
        due(desk.count(1), 5);
    }

    private static void goneEnds(MorseDesk desk, int from, int to) {
        due(desk.cancel(from, to), -1);
        due(desk.paths(from, to), -1);
        due(desk.path(from, to, 0, 0), -1);
        due(desk.incidence(from, to), NO_LONG);
        due(desk.through(from, to, 0), -1);
        due(desk.chain(from, from), NO_LONG);
    }

    /** No call throws or hangs, whatever it is given, with a complex or without. */
    private static void hold() {
        begin(36);
        int[] odd = {Integer.MIN_VALUE, -65, -3, -2, -1, 0, 1, 5, 59, 60, 63, 64, 65, 255, 256, Integer.MAX_VALUE};
        for (String text : new String[] {"", "a", PLANE, "abcde,abcdf,abcg,eg,deg,h,fg"}) {
            for (int a : odd) {
                MorseDesk desk = of(text);
                for (int b : odd) {
                    all(desk, a, b);
                }
            }
        }
    }

    private static void all(MorseDesk desk, int a, int b) {
        desk.auto(b);
        desk.simplex(a, b);
        desk.number(a);
        desk.sign(a, b);
        desk.pair(a, b);
        desk.critical(a, b);
        desk.paths(a, b);
        desk.path(a, b, b, a);
        desk.incidence(a, b);
        desk.chain(a, b);
        desk.root(a, b);
        desk.through(a, b, a);
        desk.squares();
        desk.betti(a, b);
        desk.torsion(a, b, 1);
        desk.slack(a);
        desk.free(a);
        desk.facet(a);
        desk.link(a, b);
        desk.room(a);
        desk.draws(a);
        desk.drawn(a, b);
        desk.level(a, b);
        desk.levelBetti(a, b);
        desk.keep(a);
        desk.same(a);
        desk.count(a);
        desk.cancel(a, b);
        desk.part(a);
        desk.collapse(a);
        desk.undo();
        desk.feed(a, b, a, b, a);
        desk.end(b);
        due(desk.count(10), -1);
    }
}
