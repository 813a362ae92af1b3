import java.math.BigInteger;
import java.util.ArrayDeque;
import java.util.ArrayList;
import java.util.Collections;
import java.util.Deque;
import java.util.HashMap;
import java.util.HashSet;
import java.util.List;
import java.util.Map;
import java.util.Set;
import java.util.TreeMap;
import java.util.TreeSet;

/** The document written a second time, as slowly and as near to its words as can be, to hold answers against. */
final class Model {
    static final int NONE = -1;

    private final List<Integer> tape = new ArrayList<>();
    private List<String> simplices = new ArrayList<>();
    private Set<Integer> there = new TreeSet<>();
    private Map<Integer, Integer> upOf = new TreeMap<>();
    private final Deque<Object[]> acts = new ArrayDeque<>();
    private final Map<Integer, Map<Integer, Integer>> kept = new HashMap<>();
    private long x;

    int feed(int... five) {
        if (tape.size() > 140) {
            return NONE;
        }
        for (int number : five) {
            for (int i = 3; i >= 0; i--) {
                tape.add((number >> (8 * i)) & 0xff);
            }
        }
        return tape.size();
    }

    int end(int n) {
        if (n < 0 || n > tape.size()) {
            return NONE;
        }
        while (tape.size() > n) {
            tape.remove(tape.size() - 1);
        }
        return n;
    }

    int complex() {
        StringBuilder text = new StringBuilder();
        tape.forEach(b -> text.append((char) (int) b));
        tape.clear();
        Set<String> told = new HashSet<>();
        int fault = read(text.toString(), told);
        if (fault != 0) {
            return -2 - fault;
        }
        simplices = new ArrayList<>(told);
        simplices.sort((s, t) -> s.length() != t.length() ? s.length() - t.length() : bits(s) - bits(t));
        there = new TreeSet<>();
        for (int i = 0; i < simplices.size(); i++) {
            there.add(i);
        }
        upOf = new TreeMap<>();
        acts.clear();
        kept.clear();
        return simplices.size();
    }

    private static int read(String text, Set<String> told) {
        boolean inside = false;
        boolean wanted = true;
        int facets = 0;
        int start = 0;
        for (int i = 0; i <= text.length(); i++) {
            char c = i < text.length() ? text.charAt(i) : '$';
            boolean letter = "abcdefgh".indexOf(c) >= 0;
            if (inside && letter) {
                if (text.substring(start, i).indexOf(c) >= 0) {
                    return 8 * i + 2;
                }
                if (i - start >= 5) {
                    return 8 * i + 3;
                }
                continue;
            }
            if (inside) {
                told.addAll(subsets(text.substring(start, i)));
                if (told.size() > 60) {
                    return 8 * start + 5;
                }
                inside = false;
                wanted = false;
            }
            if (i == text.length()) {
                return wanted ? 8 * i + 1 : 0;
            }
            if (c == ' ') {
                continue;
            }
            if (letter && wanted) {
                facets++;
                if (facets == 25) {
                    return 8 * i + 4;
                }
                inside = true;
                start = i;
            } else if (c == ',' && !wanted) {
                wanted = true;
            } else {
                return 8 * i + 1;
            }
        }
        throw new IllegalStateException();
    }

    private static Set<String> subsets(String facet) {
        Set<String> all = new HashSet<>();
        all.add("");
        for (char c : facet.toCharArray()) {
            for (String s : new ArrayList<>(all)) {
                char[] both = (s + c).toCharArray();
                java.util.Arrays.sort(both);
                all.add(new String(both));
            }
        }
        all.remove("");
        return all;
    }

    private static int bits(String s) {
        int sum = 0;
        for (char c : s.toCharArray()) {
            sum += 1 << (c - 'a');
        }
        return sum;
    }

    private boolean known(int k) {
        return k >= 0 && k < simplices.size();
    }

    private int dim(int k) {
        return simplices.get(k).length() - 1;
    }

    private int signOf(int face, int whole) {
        String s = simplices.get(whole);
        for (int i = 0; i < s.length() && s.length() > 1; i++) {
            if ((s.substring(0, i) + s.substring(i + 1)).equals(simplices.get(face))) {
                return i % 2 == 0 ? 1 : -1;
            }
        }
        return 0;
    }

    private List<Integer> faces(int k) {
        List<Integer> all = new ArrayList<>();
        for (int f : there) {
            if (signOf(f, k) != 0) {
                all.add(f);
            }
        }
        return all;
    }

    private List<Integer> cofaces(int k) {
        List<Integer> all = new ArrayList<>();
        for (int s : there) {
            if (signOf(k, s) != 0) {
                all.add(s);
            }
        }
        return all;
    }

    private int partner(int k) {
        if (upOf.containsKey(k)) {
            return upOf.get(k);
        }
        for (Map.Entry<Integer, Integer> e : upOf.entrySet()) {
            if (e.getValue() == k) {
                return e.getKey();
            }
        }
        return NONE;
    }

    private boolean isCritical(int k) {
        return known(k) && there.contains(k) && partner(k) == NONE;
    }

    private List<Integer> criticals() {
        List<Integer> all = new ArrayList<>();
        for (int k : there) {
            if (partner(k) == NONE) {
                all.add(k);
            }
        }
        return all;
    }

    private List<Integer> ofDim(Iterable<Integer> set, int d) {
        List<Integer> all = new ArrayList<>();
        for (int k : set) {
            if (dim(k) == d) {
                all.add(k);
            }
        }
        return all;
    }

    private boolean acyclic() {
        for (int start : upOf.keySet()) {
            Set<Integer> seen = new HashSet<>();
            Deque<Integer> todo = new ArrayDeque<>();
            todo.push(start);
            while (!todo.isEmpty()) {
                int f = todo.pop();
                for (int g : faces(upOf.get(f))) {
                    if (g == f || !upOf.containsKey(g)) {
                        continue;
                    }
                    if (g == start) {
                        return false;
                    }
                    if (seen.add(g)) {
                        todo.push(g);
                    }
                }
            }
        }
        return true;
    }

    private boolean tryPair(int f, int s) {
        upOf.put(f, s);
        if (acyclic()) {
            return true;
        }
        upOf.remove(f);
        return false;
    }

    private int height(int k, Map<Integer, Integer> memo) {
        if (memo.containsKey(k)) {
            return memo.get(k);
        }
        int best = 0;
        for (int f : faces(k)) {
            if (f != partner(k)) {
                best = Math.max(best, 1 + height(f, memo));
            }
        }
        if (upOf.containsKey(k)) {
            best = Math.max(best, 1 + height(upOf.get(k), memo));
        }
        memo.put(k, best);
        return best;
    }

    int simplex(int k, int what) {
        if (!known(k)) {
            return NONE;
        }
        switch (what) {
            case 0: return bits(simplices.get(k));
            case 1: return dim(k);
            case 2: return there.contains(k) ? 1 : 0;
            case 3: return partner(k);
            case 4: return partner(k) == NONE ? NONE : upOf.containsKey(k) ? 1 : 0;
            case 5: return there.contains(k) ? height(k, new HashMap<>()) : NONE;
            case 6: return cofaces(k).size();
            default: return NONE;
        }
    }

    int number(int letters) {
        for (int k = 0; k < simplices.size(); k++) {
            if (bits(simplices.get(k)) == letters) {
                return k;
            }
        }
        return NONE;
    }

    int sign(int face, int simplex) {
        return known(face) && known(simplex) ? signOf(face, simplex) : Integer.MIN_VALUE;
    }

    private Object[] snapshot() {
        return new Object[] {new TreeSet<>(there), new TreeMap<>(upOf)};
    }

    private void act(Object[] before) {
        acts.addLast(before);
        if (acts.size() > 16) {
            acts.removeFirst();
        }
    }

    int pair(int face, int simplex) {
        if (!known(face) || !known(simplex) || signOf(face, simplex) == 0) {
            return NONE;
        }
        if (!isCritical(face) || !isCritical(simplex)) {
            return NONE;
        }
        Object[] before = snapshot();
        if (!tryPair(face, simplex)) {
            return -2;
        }
        act(before);
        return criticals().size();
    }

    int part(int k) {
        if (!known(k) || partner(k) == NONE) {
            return NONE;
        }
        act(snapshot());
        split(k);
        return criticals().size();
    }

    private void split(int k) {
        int p = partner(k);
        if (p != NONE) {
            upOf.remove(Math.min(k, p));
        }
    }

    int auto(int how) {
        if (how < 0 || how > 2 || simplices.isEmpty()) {
            return NONE;
        }
        act(snapshot());
        upOf.clear();
        List<Integer> order = new ArrayList<>(there);
        if (how == 0) {
            for (int f : order) {
                for (int s : cofaces(f)) {
                    if (partner(f) == NONE && partner(s) == NONE) {
                        tryPair(f, s);
                    }
                }
            }
        } else if (how == 1) {
            Collections.reverse(order);
            for (int s : order) {
                List<Integer> down = faces(s);
                Collections.reverse(down);
                for (int f : down) {
                    if (partner(f) == NONE && partner(s) == NONE) {
                        tryPair(f, s);
                    }
                }
            }
        } else {
            upOf.putAll(peel(false));
        }
        return criticals().size();
    }

    private int draw(int k) {
        x = (x * 1103515245L + 12345L) % 2147483648L;
        return (int) (x / 65536 % k);
    }

    private Map<Integer, Integer> peel(boolean byDraws) {
        Map<Integer, Integer> made = new TreeMap<>();
        TreeSet<Integer> open = new TreeSet<>(there);
        while (!open.isEmpty()) {
            List<Integer> can = new ArrayList<>();
            Map<Integer, Integer> with = new HashMap<>();
            for (int f : open) {
                List<Integer> above = cofaces(f);
                above.retainAll(open);
                if (above.size() == 1) {
                    can.add(f);
                    with.put(f, above.get(0));
                }
            }
            if (can.isEmpty()) {
                List<Integer> top = ofDim(open, dim(open.last()));
                open.remove(byDraws ? top.get(draw(top.size())) : open.last());
            } else {
                int f = can.get(byDraws ? draw(can.size()) : 0);
                made.put(f, with.get(f));
                open.remove(f);
                open.remove(with.get(f));
            }
        }
        return made;
    }

    private boolean ends(int from, int to) {
        return isCritical(from) && isCritical(to) && dim(from) == dim(to) + 1;
    }

    private List<List<Integer>> allPaths(int from, int to) {
        List<List<Integer>> all = new ArrayList<>();
        walk(new ArrayList<>(List.of(from)), to, all);
        return all;
    }

    private void walk(List<Integer> row, int to, List<List<Integer>> all) {
        int at = row.get(row.size() - 1);
        int came = row.size() > 1 ? row.get(row.size() - 2) : NONE;
        for (int f : faces(at)) {
            if (f == came) {
                continue;
            }
            row.add(f);
            if (f == to) {
                all.add(new ArrayList<>(row));
            } else if (upOf.containsKey(f)) {
                row.add(upOf.get(f));
                walk(row, to, all);
                row.remove(row.size() - 1);
            }
            row.remove(row.size() - 1);
        }
    }

    private long weight(List<Integer> row) {
        long w = 1;
        for (int i = 1; i < row.size(); i++) {
            w *= i % 2 == 1 ? signOf(row.get(i), row.get(i - 1)) : -signOf(row.get(i - 1), row.get(i));
        }
        return w;
    }

    private long inc(int from, int to) {
        return allPaths(from, to).stream().mapToLong(this::weight).sum();
    }

    int cancel(int from, int to) {
        if (!ends(from, to)) {
            return NONE;
        }
        List<List<Integer>> all = allPaths(from, to);
        if (all.size() != 1) {
            return -2;
        }
        act(snapshot());
        List<Integer> row = all.get(0);
        for (int i = 1; i + 1 < row.size(); i += 2) {
            upOf.remove(row.get(i));
        }
        for (int i = 0; i + 1 < row.size(); i += 2) {
            upOf.put(row.get(i + 1), row.get(i));
        }
        if (!acyclic()) {
            throw new IllegalStateException("a cancel made a cycle");
        }
        return criticals().size();
    }

    private boolean isFree(int f) {
        List<Integer> above = cofaces(f);
        return above.size() == 1 && cofaces(above.get(0)).isEmpty();
    }

    int collapse(int face) {
        if (!known(face) || !there.contains(face)) {
            return NONE;
        }
        if (!isFree(face)) {
            return -2;
        }
        act(snapshot());
        int whole = cofaces(face).get(0);
        split(face);
        split(whole);
        there.remove(face);
        there.remove(whole);
        return there.size();
    }

    @SuppressWarnings("unchecked")
    int undo() {
        if (acts.isEmpty()) {
            return NONE;
        }
        Object[] before = acts.removeLast();
        there = (Set<Integer>) before[0];
        upOf = (Map<Integer, Integer>) before[1];
        return acts.size();
    }

    private static int listed(List<Integer> all, int k) {
        return k == NONE ? all.size() : k < all.size() ? all.get(k) : -2;
    }

    int critical(int d, int k) {
        return d < 0 || d > 4 || k < NONE ? NONE : listed(ofDim(criticals(), d), k);
    }

    long paths(int from, int to) {
        return ends(from, to) ? allPaths(from, to).size() : NONE;
    }

    int path(int from, int to, int k, int i) {
        if (!ends(from, to) || k < 0 || i < NONE) {
            return NONE;
        }
        List<List<Integer>> all = allPaths(from, to);
        return k < all.size() ? listed(all.get(k), i) : -2;
    }

    long incidence(int from, int to) {
        return ends(from, to) ? inc(from, to) : Long.MIN_VALUE;
    }

    long chain(int critical, int k) {
        if (!isCritical(critical) || !known(k) || !there.contains(k) || dim(k) != dim(critical)) {
            return Long.MIN_VALUE;
        }
        return chainOf(critical, k);
    }

    private long chainOf(int critical, int k) {
        if (k == critical) {
            return 1;
        }
        int f = partner(k);
        if (f == NONE || f > k) {
            return 0;
        }
        long sum = 0;
        for (int t : cofaces(f)) {
            if (t != k) {
                sum += signOf(f, t) * chainOf(critical, t);
            }
        }
        return -signOf(f, k) * sum;
    }

    int root(int k, int what) {
        if (!known(k) || dim(k) != 0 || !there.contains(k) || what < 0 || what > 1) {
            return NONE;
        }
        int steps = 0;
        int at = k;
        while (upOf.containsKey(at)) {
            List<Integer> both = faces(upOf.get(at));
            at = both.get(0) == at ? both.get(1) : both.get(0);
            steps++;
        }
        return what == 0 ? at : steps;
    }

    long through(int from, int to, int k) {
        if (!ends(from, to) || !known(k) || !there.contains(k)) {
            return NONE;
        }
        return allPaths(from, to).stream().filter(row -> row.contains(k)).count();
    }

    int squares() {
        int found = 0;
        for (int a : criticals()) {
            for (int c : ofDim(criticals(), dim(a) - 2)) {
                long sum = 0;
                for (int b : ofDim(criticals(), dim(a) - 1)) {
                    sum += inc(a, b) * inc(b, c);
                }
                found += sum == 0 ? 0 : 1;
            }
        }
        return found;
    }

    private BigInteger[][] table(Iterable<Integer> set, int d, boolean byPaths) {
        List<Integer> from = ofDim(set, d);
        List<Integer> to = ofDim(set, d - 1);
        BigInteger[][] t = new BigInteger[to.size()][from.size()];
        for (int i = 0; i < to.size(); i++) {
            for (int j = 0; j < from.size(); j++) {
                long n = byPaths ? inc(from.get(j), to.get(i)) : signOf(to.get(i), from.get(j));
                t[i][j] = BigInteger.valueOf(n);
            }
        }
        return t;
    }

    /** The numbers of the diagonal that are not 0, each dividing the next one, by plain steps. */
    static List<BigInteger> smith(BigInteger[][] t) {
        List<BigInteger> found = new ArrayList<>();
        int rows = t.length;
        int cols = rows == 0 ? 0 : t[0].length;
        for (int at = 0; at < Math.min(rows, cols); at++) {
            if (!corner(t, at, rows, cols)) {
                break;
            }
            found.add(t[at][at].abs());
        }
        return found;
    }

    private static boolean corner(BigInteger[][] t, int at, int rows, int cols) {
        while (true) {
            int r = -1;
            int c = -1;
            for (int i = at; i < rows; i++) {
                for (int j = at; j < cols; j++) {
                    if (t[i][j].signum() != 0 && (r < 0 || t[i][j].abs().compareTo(t[r][c].abs()) < 0)) {
                        r = i;
                        c = j;
                    }
                }
            }
            if (r < 0) {
                return false;
            }
            BigInteger[] held = t[at];
            t[at] = t[r];
            t[r] = held;
            for (int i = 0; i < rows; i++) {
                BigInteger h = t[i][at];
                t[i][at] = t[i][c];
                t[i][c] = h;
            }
            boolean clean = true;
            for (int i = at + 1; i < rows; i++) {
                BigInteger q = t[i][at].divide(t[at][at]);
                for (int j = at; j < cols; j++) {
                    t[i][j] = t[i][j].subtract(q.multiply(t[at][j]));
                }
                clean &= t[i][at].signum() == 0;
            }
            for (int j = at + 1; j < cols; j++) {
                BigInteger q = t[at][j].divide(t[at][at]);
                for (int i = at; i < rows; i++) {
                    t[i][j] = t[i][j].subtract(q.multiply(t[i][at]));
                }
                clean &= t[at][j].signum() == 0;
            }
            if (clean && addUndivided(t, at, rows, cols)) {
                return true;
            }
        }
    }

    private static boolean addUndivided(BigInteger[][] t, int at, int rows, int cols) {
        for (int i = at + 1; i < rows; i++) {
            for (int j = at + 1; j < cols; j++) {
                if (t[i][j].mod(t[at][at].abs()).signum() != 0) {
                    for (int c = at; c < cols; c++) {
                        t[at][c] = t[at][c].add(t[i][c]);
                    }
                    return false;
                }
            }
        }
        return true;
    }

    private int rank(Iterable<Integer> set, int d, boolean byPaths) {
        return d < 1 ? 0 : smith(table(set, d, byPaths)).size();
    }

    private int bettiOf(Iterable<Integer> set, int d, boolean byPaths) {
        return ofDim(set, d).size() - rank(set, d, byPaths) - rank(set, d + 1, byPaths);
    }

    int betti(int d, int which) {
        if (d < 0 || d > 4 || which < 0 || which > 1) {
            return NONE;
        }
        return bettiOf(which == 0 ? there : criticals(), d, which == 1);
    }

    long torsion(int d, int k, int which) {
        if (d < 0 || d > 4 || which < 0 || which > 1 || k < NONE) {
            return NONE;
        }
        List<BigInteger> all = smith(table(which == 0 ? there : criticals(), d + 1, which == 1));
        all.removeIf(n -> n.equals(BigInteger.ONE));
        return k == NONE ? all.size() : k < all.size() ? all.get(k).longValueExact() : -2;
    }

    int slack(int d) {
        if (d < 0 || d > 4) {
            return Integer.MIN_VALUE;
        }
        int sum = 0;
        for (int i = d, turn = 1; i >= 0; i--, turn = -turn) {
            sum += turn * (ofDim(criticals(), i).size() - bettiOf(criticals(), i, true));
        }
        return sum;
    }

    int free(int k) {
        List<Integer> all = new ArrayList<>(there);
        all.removeIf(f -> !isFree(f));
        return k < NONE ? NONE : listed(all, k);
    }

    int facet(int k) {
        List<Integer> all = new ArrayList<>(there);
        all.removeIf(f -> !cofaces(f).isEmpty());
        return k < NONE ? NONE : listed(all, k);
    }

    private int euler(Iterable<Integer> set) {
        int sum = 0;
        for (int k : set) {
            sum += dim(k) % 2 == 0 ? 1 : -1;
        }
        return sum;
    }

    int link(int k, int what) {
        if (!known(k) || !there.contains(k) || what < 0 || what > 1) {
            return Integer.MIN_VALUE;
        }
        List<Integer> all = new ArrayList<>();
        for (int big : there) {
            String rest = simplices.get(big);
            boolean holds = true;
            for (char c : simplices.get(k).toCharArray()) {
                holds &= rest.indexOf(c) >= 0;
                rest = rest.replace("" + c, "");
            }
            if (holds && !rest.isEmpty()) {
                all.add(number(bits(rest)));
            }
        }
        return what == 0 ? all.size() : euler(all);
    }

    int room(int d) {
        if (d < 0 || d > 4) {
            return NONE;
        }
        int found = 0;
        for (int f : ofDim(criticals(), d)) {
            for (int s : cofaces(f)) {
                if (partner(s) == NONE && tryPair(f, s)) {
                    found++;
                    upOf.remove(f);
                }
            }
        }
        return found;
    }

    int draws(int to) {
        if (to < 0) {
            return NONE;
        }
        int was = (int) x;
        x = to;
        return was;
    }

    int drawn(int m, int what) {
        if (m < 1 || m > 40 || what < 0 || what > 2 || simplices.isEmpty()) {
            return NONE;
        }
        long was = x;
        List<Integer> left = new ArrayList<>();
        for (int i = 0; i < m; i++) {
            left.add(there.size() - 2 * peel(true).size());
        }
        x = was;
        int least = Collections.min(left);
        return what == 0 ? least : what == 1 ? Collections.frequency(left, least) : Collections.max(left);
    }

    private Set<Integer> upTo(int h) {
        Map<Integer, Integer> memo = new HashMap<>();
        Set<Integer> all = new TreeSet<>();
        for (int k : there) {
            if (height(k, memo) <= h) {
                all.add(k);
            }
        }
        return all;
    }

    int level(int h, int what) {
        if (h < 0 || what < 0 || what > 1) {
            return NONE;
        }
        return what == 0 ? upTo(h).size() : euler(upTo(h));
    }

    int levelBetti(int h, int d) {
        if (h < 0 || d < 0 || d > 4) {
            return NONE;
        }
        Set<Integer> all = new TreeSet<>();
        for (int k : upTo(h)) {
            for (String s : subsets(simplices.get(k))) {
                all.add(number(bits(s)));
            }
        }
        return bettiOf(all, d, false);
    }

    int keep(int k) {
        if (k < 0 || k > 2 || simplices.isEmpty()) {
            return NONE;
        }
        kept.put(k, new TreeMap<>(upOf));
        return upOf.size();
    }

    int same(int k) {
        if (k < 0 || k > 2) {
            return NONE;
        }
        if (!kept.containsKey(k)) {
            return -2;
        }
        Set<Map.Entry<Integer, Integer>> both = new HashSet<>(upOf.entrySet());
        both.retainAll(kept.get(k).entrySet());
        return both.size();
    }

    int count(int what) {
        switch (what) {
            case 0: return simplices.size();
            case 1: return there.size();
            case 2: return there.stream().mapToInt(this::dim).max().orElse(NONE);
            case 3: return upOf.size();
            case 4: return criticals().size();
            case 5: return euler(there);
            case 6: return parts();
            case 7: return acts.size();
            case 8: return (int) x;
            case 9: return tape.size();
            default: return NONE;
        }
    }

    private int parts() {
        Map<Integer, Integer> name = new HashMap<>();
        there.forEach(k -> name.put(k, k));
        for (int s : there) {
            for (int f : faces(s)) {
                int old = name.get(s);
                int now = name.get(f);
                name.replaceAll((k, v) -> v == old ? now : v);
            }
        }
        return new HashSet<>(name.values()).size();
    }
}
