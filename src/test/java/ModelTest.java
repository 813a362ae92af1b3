import java.util.Random;

/** Runs of calls drawn at random (always the same ones), each answer held against the Model's. */
public final class ModelTest {
    private static final int RUNS = 260;
    private static final int CALLS = 300;

    private static final String[] KNOWN = {
        "abc,abd,ace,aef,adf,bcf,bde,bef,cde,cdf", // the projective plane
        "abd,bde,bce,cef,acf,adf,deg,efh,dgh,dfh", // a strip with more at it
        "abd,acd,bce,bde,acg,aeg,bcf,bfg,cdf,ceg,adf,aef,def,cfg", // many triangles
        "abde,bcde,abce,abcd,acde", // the sphere of three dims
        "abcd,abce,abde,acde,bcde,fgh", // and a part beside it
        "abc,bcd,cde,def,efg,fga,gab,abd,bce,cdf,deg,efa,fgb,gac", // the torus
        "abcde", "abcde,bcdef", "a", "a,b,c,d,e,f,g,h", "ab,bc,cd,de,ef,fg,gh,ha,ae,bf",
        "abc,ade,afg,ah", "abcd,efgh,ae", "abcd,cdef,efgh",
        "abc,acd,ade,aef,afb,gbc,gcd,gde,gef,gfb",
        "abd,bcd,cad,abe,bce,cae,abf,bcf,caf,def", // edges in more than two
        // torsion 3, and twice 4
        "abg,abh,acd,acg,ade,aeh,agh,bce,bcf,bdf,bdh,beh,cdh,ceg,cfh,deg,dfg,dgh,efg,efh",
        "abf,abh,acd,ace,adf,aeh,bcf,bch,bdg,bdh,beg,bfg,cdg,cef,cgh,def,deg,dfh,egh,fgh",
        "abc,abd,acg,ach,adf,aef,aeg,aeh,bcd,bce,bde,bdf,beh,bfg,bgh,cde,cef,cfg,cfh,deg,dfh,dgh",
    };

    private final Random draw;
    private final MorseDesk desk = new MorseDesk();
    private final Model model = new Model();
    private final StringBuilder said = new StringBuilder();
    private int calls;

    private ModelTest(long seed) {
        draw = new Random(seed);
    }

    public static void main(String[] args) {
        int first = args.length > 0 ? Integer.parseInt(args[0]) : 0;
        int runs = args.length > 1 ? Integer.parseInt(args[1]) : RUNS;
        for (int run = first; run < first + runs; run++) {
            ModelTest test = new ModelTest(run);
            String wrong = test.go();
            if (wrong != null) {
                System.out.println("run " + run + ": " + test.said + wrong);
                System.exit(1);
            }
        }
        System.out.println(runs + " runs agree with the model");
    }

    private String go() {
        String wrong = draw.nextInt(8) == 0 ? null : tell();
        while (calls < CALLS && wrong == null) {
            wrong = draw.nextInt(60) == 0 ? tell() : call();
        }
        return wrong;
    }

    private String check(String call, long got, long want) {
        calls++;
        said.append(call).append(" = ").append(want).append('\n');
        return got == want ? null : call + " answered " + got + ", due is " + want;
    }

    private String tell() {
        String text = text();
        String wrong = null;
        if (desk.count(9) != 0) {
            wrong = check("end(0)", desk.end(0), model.end(0));
        }
        for (int at = 0; at < text.length() && wrong == null; at += 20) {
            int[] n = new int[5];
            for (int i = 0; i < 20; i++) {
                int b = at + i < text.length() ? text.charAt(at + i) : draw.nextInt(256);
                n[i / 4] |= b << (24 - i % 4 * 8);
            }
            wrong = check("feed", desk.feed(n[0], n[1], n[2], n[3], n[4]), model.feed(n));
        }
        if (wrong == null) {
            wrong = check("end(" + text.length() + ")", desk.end(text.length()), model.end(text.length()));
        }
        return wrong != null ? wrong : check("complex " + text, desk.complex(), model.complex());
    }

    private String text() {
        StringBuilder text = new StringBuilder();
        if (draw.nextInt(3) == 0) {
            text.append(KNOWN[draw.nextInt(KNOWN.length)]);
        } else {
            int facets = 1 + draw.nextInt(draw.nextInt(6) == 0 ? 30 : 11);
            int letters = 1 + draw.nextInt(8);
            int most = 1 + draw.nextInt(5);
            for (int i = 0; i < facets; i++) {
                text.append(i == 0 ? "" : ",").append(blanks()).append(facet(letters, most)).append(blanks());
            }
        }
        if (draw.nextInt(5) == 0) {
            spoil(text);
        }
        return text.length() <= 160 ? text.toString() : text.substring(0, 160);
    }

    private String blanks() {
        return draw.nextInt(12) == 0 ? " ".repeat(1 + draw.nextInt(2)) : "";
    }

    private String facet(int letters, int most) {
        StringBuilder all = new StringBuilder("abcdefgh".substring(0, letters));
        StringBuilder facet = new StringBuilder();
        int size = Math.min(letters, 1 + draw.nextInt(most));
        for (int i = 0; i < size; i++) {
            int at = draw.nextInt(all.length());
            facet.append(all.charAt(at));
            all.deleteCharAt(at);
        }
        return facet.toString();
    }

    private void spoil(StringBuilder text) {
        int at = draw.nextInt(text.length() + 1);
        String odd = "abcdefghi,, A!`" + (char) 0 + (char) 200;
        text.insert(at, odd.charAt(draw.nextInt(odd.length())));
    }

    /** Mostly a number that is one of the complex, now and then one beyond. */
    private int some() {
        int size = desk.count(0);
        if (size == 0 || draw.nextInt(25) == 0) {
            int[] odd = {-1, -2, size, 64, 63, 60, 61, 128, Integer.MIN_VALUE, Integer.MAX_VALUE, 1 << 8};
            return odd[draw.nextInt(odd.length)];
        }
        return draw.nextInt(size);
    }

    private int small(int most) {
        int[] odd = {-1, -2, most + 1, Integer.MIN_VALUE, Integer.MAX_VALUE};
        return draw.nextInt(15) == 0 ? odd[draw.nextInt(odd.length)] : draw.nextInt(most + 1);
    }

    private int faceOf(int k) {
        int letters = desk.simplex(k, 0);
        int rest = letters & ~(1 << draw.nextInt(8));
        return draw.nextInt(12) == 0 || letters == rest ? some() : desk.number(rest);
    }

    private int leftOver(int dim) {
        int size = desk.critical(dim, -1);
        return size <= 0 || draw.nextInt(20) == 0 ? some() : desk.critical(dim, draw.nextInt(size));
    }

    private String call() {
        switch (draw.nextInt(9)) {
            case 0: return change();
            case 1: return change();
            case 2: return askSimplex();
            case 3: return askPaths();
            case 4: return askPaths();
            case 5: return askHomology();
            case 6: return askLists();
            case 7: return askOther();
            default: return draw.nextInt(3) == 0 ? askTape() : change();
        }
    }

    private String change() {
        int s = some();
        int f = faceOf(s);
        int d = 1 + draw.nextInt(4);
        switch (draw.nextInt(14)) {
            case 0: return check("auto", desk.auto(d - 1), model.auto(d - 1));
            case 1: return check("part(" + s + ")", desk.part(s), model.part(s));
            case 2: return check("undo()", desk.undo(), model.undo());
            case 3: case 4: {
                int from = leftOver(d);
                int to = leftOver(d - 1);
                return check("cancel(" + from + ", " + to + ")", desk.cancel(from, to), model.cancel(from, to));
            }
            case 5: case 6: {
                int size = desk.free(-1);
                int face = size > 0 && draw.nextInt(3) > 0 ? desk.free(draw.nextInt(size)) : s;
                return check("collapse(" + face + ")", desk.collapse(face), model.collapse(face));
            }
            case 7: {
                int k = small(2);
                return check("keep(" + k + ")", desk.keep(k), model.keep(k));
            }
            default: return check("pair(" + f + ", " + s + ")", desk.pair(f, s), model.pair(f, s));
        }
    }

    private String askSimplex() {
        int s = some();
        int f = faceOf(s);
        int what = small(6);
        int letters = draw.nextInt(4) == 0 ? some() : draw.nextInt(256);
        switch (draw.nextInt(6)) {
            case 0: return check("number(" + letters + ")", desk.number(letters), model.number(letters));
            case 1: return check("sign(" + f + ", " + s + ")", desk.sign(f, s), model.sign(f, s));
            case 2: {
                int point = draw.nextInt(6) == 0 ? s : draw.nextInt(9);
                int asked = small(1);
                return check("root(" + point + ", " + asked + ")", desk.root(point, asked), model.root(point, asked));
            }
            case 3: {
                int asked = small(1);
                return check("link(" + s + ", " + asked + ")", desk.link(s, asked), model.link(s, asked));
            }
            default: return check("simplex(" + s + ", " + what + ")", desk.simplex(s, what), model.simplex(s, what));
        }
    }

    private String askPaths() {
        int d = 1 + draw.nextInt(3);
        int from = leftOver(d);
        int to = leftOver(d - 1);
        int k = small(draw.nextInt(3) == 0 ? 12 : 2);
        int i = small(8) - (draw.nextInt(5) == 0 ? 1 : 0);
        int via = some();
        String ends = from + ", " + to;
        switch (draw.nextInt(6)) {
            case 0: return check("paths(" + ends + ")", desk.paths(from, to), model.paths(from, to));
            case 1: return check("incidence(" + ends + ")", desk.incidence(from, to), model.incidence(from, to));
            case 2: return check("chain(" + from + ", " + via + ")", desk.chain(from, via), model.chain(from, via));
            case 3: return check("through(" + ends + ", " + via + ")", desk.through(from, to, via),
                    model.through(from, to, via));
            default: return check("path(" + ends + ", " + k + ", " + i + ")", desk.path(from, to, k, i),
                    model.path(from, to, k, i));
        }
    }

    private String askHomology() {
        int d = small(4);
        int which = small(1);
        int k = small(2) - 1;
        int h = small(14);
        switch (draw.nextInt(6)) {
            case 0: return check("betti(" + d + ", " + which + ")", desk.betti(d, which), model.betti(d, which));
            case 1: return check("torsion(" + d + ", " + k + ", " + which + ")", desk.torsion(d, k, which),
                    model.torsion(d, k, which));
            case 2: return check("slack(" + d + ")", desk.slack(d), model.slack(d));
            case 3: return check("squares()", desk.squares(), model.squares());
            default: return check("levelBetti(" + h + ", " + d + ")", desk.levelBetti(h, d), model.levelBetti(h, d));
        }
    }

    private String askLists() {
        int k = small(6) - 1;
        int d = small(4);
        int h = small(14);
        int what = small(1);
        switch (draw.nextInt(5)) {
            case 0: return check("critical(" + d + ", " + k + ")", desk.critical(d, k), model.critical(d, k));
            case 1: return check("free(" + k + ")", desk.free(k), model.free(k));
            case 2: return check("facet(" + k + ")", desk.facet(k), model.facet(k));
            case 3: return check("room(" + d + ")", desk.room(d), model.room(d));
            default: return check("level(" + h + ", " + what + ")", desk.level(h, what), model.level(h, what));
        }
    }

    private String askOther() {
        int what = small(9);
        int k = small(2);
        int x = draw.nextInt(3) == 0 ? draw.nextInt() : draw.nextInt(100);
        int m = small(41);
        switch (draw.nextInt(5)) {
            case 0: return check("draws(" + x + ")", desk.draws(x), model.draws(x));
            case 1: {
                if (draw.nextInt(3) > 0) {
                    m = Math.min(m, 3);
                }
                return check("drawn(" + m + ", " + k + ")", desk.drawn(m, k), model.drawn(m, k));
            }
            case 2: return check("same(" + k + ")", desk.same(k), model.same(k));
            default: return check("count(" + what + ")", desk.count(what), model.count(what));
        }
    }

    private String askTape() {
        int n = small(160);
        if (draw.nextBoolean()) {
            return check("end(" + n + ")", desk.end(n), model.end(n));
        }
        int[] five = {n, draw.nextInt(), 0, 1 << 31, -1};
        return check("feed", desk.feed(five[0], five[1], five[2], five[3], five[4]), model.feed(five));
    }
}
