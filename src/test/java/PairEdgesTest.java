import java.util.ArrayList;
import java.util.List;
import java.util.function.ToLongFunction;

/** Boundary cases of promises 8 to 13: ACTS that are done, ACTS that are refused, ACTS that are UNDONE. */
public final class PairEdgesTest {
    private static final int NONE = MorseDesk.NONE;

    /** a and ab in a PAIR; nothing is GONE. */
    private static final Edges.Start SOLID = Edges.laden(Edges.SOLID, desk -> desk.pair(0, 3));

    /** c and ac are CRITICAL; two PATHS. */
    private static final Edges.Start RING = Edges.laden(Edges.RING, desk -> {
        desk.pair(0, 3);
        desk.pair(1, 5);
    });

    /** In SOLID ab and abc are GONE, b and bc in a PAIR. */
    private static final Edges.Start GONE = Edges.laden(Edges.SOLID, desk -> {
        desk.pair(4, 6);
        desk.collapse(3);
        desk.pair(1, 5);
    });

    /** Only c is THERE. */
    private static final Edges.Start ONE = Edges.laden(Edges.SOLID, desk -> {
        desk.collapse(3);
        desk.collapse(0);
        desk.collapse(1);
    });

    public static void main(String[] args) {
        Edges.run(PairEdgesTest.class, 8, 13);
    }

    private static void due(long got, long want) {
        Edges.due(got, want);
    }

    private static void refusedPair(Edges.Start start, int face, int simplex, int answer) {
        Edges.refused(start, desk -> desk.pair(face, simplex), answer);
    }

    // 8: pair.

    static void p08_noFaceOfIt() {
        refusedPair(SOLID, 1, 6, NONE);
        refusedPair(SOLID, 1, 4, NONE);
        refusedPair(SOLID, 4, 2, NONE);
        refusedPair(SOLID, 6, 5, NONE);
        refusedPair(SOLID, 4, 5, NONE);
        refusedPair(SOLID, 1, 2, NONE);
        refusedPair(SOLID, 6, 6, NONE);
        refusedPair(SOLID, 1, 1, NONE);
    }

    static void p08_noSuchNumbers() {
        for (int k : Edges.beyond(7)) {
            refusedPair(SOLID, k, 6, NONE);
            refusedPair(SOLID, 1, k, NONE);
            refusedPair(SOLID, k, k, NONE);
        }
    }

    static void p08_withoutAComplex() {
        refusedPair(Edges.BARE, 0, 1, NONE);
        refusedPair(Edges.BARE, -1, -1, NONE);
    }

    static void p08_theFaceHasAPartner() {
        refusedPair(SOLID, 0, 4, NONE);
        refusedPair(SOLID, 3, 6, NONE);
    }

    static void p08_theSimplexHasAPartner() {
        refusedPair(SOLID, 1, 3, NONE);
        refusedPair(RING, 2, 5, NONE);
    }

    static void p08_bothHaveAPartner() {
        refusedPair(SOLID, 0, 3, NONE);
        refusedPair(RING, 1, 3, NONE);
    }

    static void p08_oneIsGone() {
        refusedPair(GONE, 0, 3, NONE);
        refusedPair(GONE, 4, 6, NONE);
        refusedPair(GONE, 3, 6, NONE);
        refusedPair(ONE, 2, 5, NONE);
    }

    static void p08_noLongerAcyclic() {
        refusedPair(RING, 2, 4, -2);
        // Around a, by edges and triangles.
        refusedPair(Edges.laden("abc,acd,abd", desk -> {
            desk.pair(desk.number(5), desk.number(7));
            desk.pair(desk.number(9), desk.number(13));
        }), 4, 11, -2);
        MorseDesk fan = Edges.of("abc,acd,abd");
        due(fan.simplex(4, 0), 3);
        due(fan.simplex(11, 0), 11);
    }

    static void p08_aLongCycle() {
        MorseDesk desk = Edges.of("ab,bc,cd,de,ef,fg,gh,ah");
        int[] edges = {3, 6, 12, 24, 48, 96, 192, 129};
        for (int k = 0; k < 7; k++) {
            due(desk.pair(k, desk.number(edges[k])), 14 - 2 * k);
        }
        due(desk.pair(7, desk.number(129)), -2);
        due(desk.part(3), 4);
        due(desk.pair(7, desk.number(129)), 2);
        due(desk.pair(3, desk.number(24)), -2);
    }

    static void p08_twoFacesInPairsAndNoCycle() {
        // ab goes to ac, and ac to none that comes back.
        MorseDesk desk = Edges.of("abc,acd");
        due(desk.pair(desk.number(3), desk.number(7)), 9);
        due(desk.pair(desk.number(5), desk.number(13)), 7);
        due(desk.count(3), 2);
    }

    static void p08_allInPairsCannotBe() {
        // A point is always left: what could be PAIRED last would close a cycle.
        for (String text : new String[] {"a", "ab", Edges.RING, Edges.SOLID, "ab,cd", "abc,d"}) {
            MorseDesk desk = Edges.of(text);
            int size = desk.count(0);
            for (int i = 0; i < size * size; i++) {
                desk.pair(i / size, i % size);
            }
            due(desk.count(4), size - 2 * desk.count(3));
            due(desk.critical(0, NONE) > 0 ? 1 : 0, 1);
        }
    }

    static void p08_onePairLeavesOne() {
        MorseDesk desk = Edges.of("ab");
        due(desk.pair(1, 2), 1);
        due(desk.count(3), 1);
        due(desk.pair(0, 2), NONE);
    }

    // 9: part.

    static void p09_noPartner() {
        Edges.refused(SOLID, desk -> desk.part(1), NONE);
        Edges.refused(SOLID, desk -> desk.part(6), NONE);
        Edges.refused(ONE, desk -> desk.part(2), NONE);
        Edges.refused(Edges.laden("a"), desk -> desk.part(0), NONE);
    }

    static void p09_noSuchNumber() {
        for (int k : Edges.beyond(7)) {
            Edges.refused(SOLID, desk -> desk.part(k), NONE);
        }
        Edges.refused(Edges.BARE, desk -> desk.part(0), NONE);
    }

    static void p09_gone() {
        for (int k : new int[] {3, 6}) {
            Edges.refused(GONE, desk -> desk.part(k), NONE);
        }
        // Its PARTNER went.
        Edges.refused(GONE, desk -> desk.part(4), NONE);
    }

    static void p09_eitherOfBoth() {
        for (int k : new int[] {0, 3}) {
            MorseDesk desk = SOLID.make(false);
            due(desk.part(k), 7);
            due(desk.count(3), 0);
            due(desk.simplex(0, 3), NONE);
            due(desk.simplex(3, 3), NONE);
            due(desk.part(0), NONE);
            due(desk.part(3), NONE);
            due(desk.count(7), 2);
        }
    }

    // 10: auto.

    static void p10_others() {
        for (int how : new int[] {-1, 3, 4, 256, Edges.LEAST, Edges.MOST}) {
            for (Edges.Start start : new Edges.Start[] {SOLID, RING, GONE, ONE, Edges.BARE}) {
                Edges.refused(start, desk -> desk.auto(how), NONE);
            }
        }
    }

    static void p10_withoutAComplex() {
        for (int how = 0; how < 3; how++) {
            int asked = how;
            Edges.refused(Edges.BARE, desk -> desk.auto(asked), NONE);
        }
        MorseDesk desk = new MorseDesk();
        Edges.tell(desk, "ab,");
        due(desk.auto(0), NONE);
        due(desk.count(7), 0);
    }

    static void p10_aPointAlone() {
        for (int how = 0; how < 3; how++) {
            MorseDesk desk = Edges.of("c");
            due(desk.auto(how), 1);
            due(desk.count(3), 0);
            due(desk.count(7), 1);
        }
    }

    static void p10_nothingThereButOne() {
        for (int how = 0; how < 3; how++) {
            MorseDesk desk = Edges.onePoint();
            due(desk.auto(how), 1);
            due(desk.critical(0, 0), 2);
            due(desk.count(3), 0);
            due(desk.count(7), 4);
        }
    }

    static void p10_atFirstNoPairsAreLeft() {
        for (int how = 0; how < 3; how++) {
            MorseDesk fresh = Edges.of(Edges.SOLID);
            MorseDesk paired = Edges.of(Edges.SOLID);
            paired.pair(2, 5);
            paired.pair(3, 6);
            due(paired.auto(how), fresh.auto(how));
            Edges.dueRow(Edges.partners(paired), Edges.partners(fresh));
            due(paired.count(7), 3);
        }
    }

    static void p10_whatIsGoneIsLeftOut() {
        long[][] want = {{4, 5, -1, -1, 0, 1, -1}, {4, -1, 5, -1, 0, 2, -1}, {4, 5, -1, -1, 0, 1, -1}};
        for (int how = 0; how < 3; how++) {
            MorseDesk desk = GONE.make(false);
            due(desk.auto(how), 1);
            Edges.dueRow(Edges.partners(desk), want[how]);
        }
    }

    static void p10_noneIsAFaceOfJustOne_theLastOpenOneStaysCritical() {
        MorseDesk ring = Edges.of(Edges.RING);
        due(ring.auto(2), 2);
        due(ring.critical(1, 0), 5);
        due(ring.critical(0, 0), 2);
        MorseDesk two = Edges.of("abc,abd,acd,bcd,ef");
        due(two.auto(2), 3);
        due(two.simplex(two.critical(2, 0), 0), 14);
        due(two.simplex(two.critical(0, 0), 0), 8);
        due(two.simplex(two.critical(0, 1), 0), 32);
    }

    static void p10_pointsAlone() {
        for (int how = 0; how < 3; how++) {
            MorseDesk desk = Edges.of("a,b,c,d,e,f,g,h");
            due(desk.auto(how), 8);
            due(desk.count(3), 0);
        }
    }

    static void p10_60Simplices() {
        for (int how = 0; how < 3; how++) {
            MorseDesk desk = Edges.of(Edges.SIXTY);
            int left = desk.auto(how);
            due(desk.count(3) * 2 + left, 60);
            due(desk.count(4), left);
        }
    }

    static void p10_theSameAgain() {
        MorseDesk desk = Edges.of(Edges.PLANE);
        for (int i = 0; i < 5; i++) {
            due(desk.auto(0), desk.count(4));
            due(desk.count(7), i + 1);
        }
    }

    // 11: cancel.

    static void p11_notCritical() {
        Edges.refused(SOLID, desk -> desk.cancel(3, 1), NONE);
        Edges.refused(SOLID, desk -> desk.cancel(4, 0), NONE);
        Edges.refused(SOLID, desk -> desk.cancel(3, 0), NONE);
        Edges.refused(SOLID, desk -> desk.cancel(6, 3), NONE);
    }

    static void p11_notOneDimMore() {
        Edges.refused(SOLID, desk -> desk.cancel(6, 1), NONE);
        Edges.refused(SOLID, desk -> desk.cancel(1, 4), NONE);
        Edges.refused(SOLID, desk -> desk.cancel(4, 5), NONE);
        Edges.refused(SOLID, desk -> desk.cancel(1, 2), NONE);
        Edges.refused(SOLID, desk -> desk.cancel(6, 6), NONE);
        Edges.refused(SOLID, desk -> desk.cancel(4, 6), NONE);
    }

    static void p11_noSuchNumbers() {
        for (int k : Edges.beyond(7)) {
            Edges.refused(SOLID, desk -> desk.cancel(k, 1), NONE);
            Edges.refused(SOLID, desk -> desk.cancel(4, k), NONE);
        }
        Edges.refused(Edges.BARE, desk -> desk.cancel(1, 0), NONE);
    }

    static void p11_gone() {
        Edges.refused(GONE, desk -> desk.cancel(6, 4), NONE);
        Edges.refused(GONE, desk -> desk.cancel(6, 3), NONE);
        Edges.refused(GONE, desk -> desk.cancel(3, 0), NONE);
        Edges.refused(ONE, desk -> desk.cancel(4, 2), NONE);
    }

    static void p11_noPathAtAll() {
        Edges.refused(Edges.laden("ab,c"), desk -> desk.cancel(3, 2), -2);
        Edges.refused(Edges.laden(Edges.SOLID), desk -> desk.cancel(5, 0), -2);
    }

    static void p11_twoPaths() {
        Edges.refused(RING, desk -> desk.cancel(4, 2), -2);
        Edges.refused(Edges.laden(Edges.PLANE, desk -> desk.auto(2)),
                desk -> desk.cancel(desk.critical(2, 0), desk.critical(1, 0)), -2);
    }

    static void p11_thePathOfOneStep() {
        MorseDesk desk = Edges.of("ab");
        due(desk.cancel(2, 0), 1);
        Edges.dueRow(Edges.partners(desk), 2, -1, 0);
        due(desk.cancel(2, 1), NONE);
        due(desk.count(7), 1);
    }

    static void p11_theLongestPathOfALine() {
        MorseDesk desk = Edges.of("ab,bc,cd,de,ef,fg,gh");
        for (int k = 1; k < 7; k++) {
            desk.pair(k, 7 + k);
        }
        due(desk.count(4), 3);
        due(desk.path(14, 0, 0, NONE), 14);
        due(desk.cancel(14, 0), 1);
        Edges.dueRow(Edges.partners(desk), 8, 9, 10, 11, 12, 13, 14, -1, 0, 1, 2, 3, 4, 5, 6);
        due(desk.undo(), 6);
        due(desk.count(4), 3);
    }

    // 12: collapse.

    static void p12_notFree() {
        for (int k : new int[] {0, 1, 2, 6}) {
            Edges.refused(SOLID, desk -> desk.collapse(k), -2);
        }
        for (int k = 0; k < 6; k++) {
            int face = k;
            Edges.refused(RING, desk -> desk.collapse(face), -2);
        }
        Edges.refused(GONE, desk -> desk.collapse(2), -2);
        Edges.refused(GONE, desk -> desk.collapse(4), -2);
    }

    static void p12_withoutIt() {
        for (int k : Edges.beyond(7)) {
            Edges.refused(SOLID, desk -> desk.collapse(k), NONE);
        }
        Edges.refused(Edges.BARE, desk -> desk.collapse(0), NONE);
    }

    static void p12_gone() {
        Edges.refused(GONE, desk -> desk.collapse(3), NONE);
        Edges.refused(GONE, desk -> desk.collapse(6), NONE);
    }

    static void p12_nothingThereButOne() {
        Edges.refused(ONE, desk -> desk.collapse(2), -2);
        for (int k : new int[] {0, 1, 3, 4, 5, 6}) {
            Edges.refused(ONE, desk -> desk.collapse(k), NONE);
        }
        Edges.refused(Edges.laden("a"), desk -> desk.collapse(0), -2);
    }

    static void p12_pairedWithThemNoMore() {
        MorseDesk desk = Edges.of(Edges.SOLID);
        desk.pair(0, 3);
        desk.pair(5, 6);
        due(desk.collapse(3), 5);
        Edges.dueRow(Edges.partners(desk), -1, -1, -1, -1, -1, -1, -1);
        due(desk.count(3), 0);
        due(desk.count(4), 5);
        due(desk.undo(), 2);
        Edges.dueRow(Edges.partners(desk), 3, -1, -1, 0, -1, 6, 5);
    }

    static void p12_pairedWithOneAnother() {
        MorseDesk desk = Edges.of(Edges.SOLID);
        desk.pair(3, 6);
        desk.pair(0, 4);
        due(desk.collapse(3), 5);
        Edges.dueRow(Edges.partners(desk), 4, -1, -1, -1, 0, -1, -1);
    }

    static void p12_freeOnlyWhenTheOtherOnesAreGone() {
        MorseDesk desk = Edges.of("abc,abd");
        due(desk.collapse(desk.number(3)), -2);
        due(desk.collapse(desk.number(5)), 9);
        due(desk.collapse(desk.number(3)), 7);
        due(desk.simplex(desk.number(11), 2), 0);
    }

    static void p12_allButOneOfABigOne() {
        MorseDesk desk = Edges.of("abcde");
        for (int left = 31; left > 1; left -= 2) {
            due(desk.collapse(desk.free(0)), left - 2);
        }
        due(desk.free(NONE), 0);
        due(desk.count(1), 1);
        due(desk.count(0), 31);
        due(desk.betti(0, 0), 1);
    }

    // 13: undo.

    static void p13_noneCan() {
        Edges.refused(Edges.BARE, MorseDesk::undo, NONE);
        Edges.Start told = full -> {
            MorseDesk desk = SOLID.make(full);
            Edges.tell(desk, "ab,bc");
            Edges.put(desk, "h");
            return desk;
        };
        Edges.refused(told, MorseDesk::undo, NONE);
        Edges.Start undone = full -> {
            MorseDesk desk = RING.make(full);
            while (desk.count(7) > 0) {
                desk.undo();
            }
            return desk;
        };
        Edges.refused(undone, MorseDesk::undo, NONE);
    }

    /** How things stood ahead of each ACT, to be met again in turn. */
    private static void dueBack(MorseDesk desk, List<long[]> before, int can) {
        due(desk.count(7), can);
        for (int i = 1; i <= can; i++) {
            due(desk.undo(), can - i);
            Edges.dueRow(Edges.partners(desk), before.get(before.size() - i));
        }
        due(desk.undo(), NONE);
    }

    static void p13_fifteenSixteenSeventeen() {
        for (int acts = 15; acts <= 17; acts++) {
            MorseDesk desk = Edges.of(Edges.SOLID);
            List<long[]> before = new ArrayList<>();
            for (int i = 0; i < acts; i++) {
                before.add(Edges.partners(desk));
                if (i % 2 == 0) {
                    desk.pair(i % 3, new int[] {3, 5, 4}[i % 3]);
                } else {
                    desk.part(desk.simplex(0, 3) != NONE ? 0 : desk.simplex(1, 3) != NONE ? 1 : 2);
                }
                due(desk.count(7), Math.min(i + 1, 16));
            }
            dueBack(desk, before, Math.min(acts, 16));
        }
    }

    static void p13_moreActsBehindUndoneOnes() {
        MorseDesk desk = Edges.of(Edges.SOLID);
        List<long[]> before = new ArrayList<>();
        for (int i = 0; i < 20; i++) {
            before.add(Edges.partners(desk));
            desk.auto(i % 3);
        }
        for (int i = 0; i < 10; i++) {
            due(desk.undo(), 15 - i);
            before.remove(before.size() - 1);
        }
        for (int i = 0; i < 13; i++) {
            before.add(Edges.partners(desk));
            due(desk.auto((i + 1) % 3), 1);
            due(desk.count(7), Math.min(7 + i, 16));
        }
        dueBack(desk, before, 16);
    }

    static void p13_eachKindOfAct() {
        Edges.Start start = Edges.laden("abc,cd", desk -> desk.pair(0, 4));
        List<ToLongFunction<MorseDesk>> acts = List.of(desk -> desk.pair(1, 6), desk -> desk.part(4),
                desk -> desk.auto(0), desk -> desk.auto(1), desk -> desk.auto(2), desk -> desk.cancel(8, 6),
                desk -> desk.collapse(3));
        long[] answers = {5, 9, 1, 1, 1, 5, 7};
        for (int i = 0; i < answers.length; i++) {
            MorseDesk desk = start.make(false);
            due(acts.get(i).applyAsLong(desk), answers[i]);
            due(desk.count(7), 2);
            due(desk.undo(), 1);
            Edges.dueAlike(desk, start.make(false));
        }
    }

    static void p13_anActThatChangedNothing() {
        MorseDesk desk = Edges.of("a,b");
        due(desk.auto(0), 2);
        due(desk.auto(0), 2);
        due(desk.undo(), 1);
        due(desk.undo(), 0);
        due(desk.undo(), NONE);
    }

    static void p13_whatIsNoActStays() {
        MorseDesk desk = Edges.of("ab");
        desk.pair(0, 2);
        desk.keep(2);
        desk.draws(5);
        Edges.put(desk, "abc");
        due(desk.count(7), 1);
        due(desk.undo(), 0);
        due(desk.count(8), 5);
        due(desk.count(9), 3);
        due(desk.same(2), 0);
        due(desk.pair(0, 2), 1);
        due(desk.same(2), 1);
    }

    static void p13_aCollapseThatTookPairsWithIt() {
        MorseDesk desk = Edges.of("ab,bc");
        desk.pair(0, 3);
        desk.pair(1, 4);
        due(desk.collapse(0), 3);
        due(desk.collapse(1), 1);
        due(desk.count(3), 0);
        due(desk.undo(), 3);
        Edges.dueRow(Edges.partners(desk), -1, 4, -1, -1, 1);
        due(desk.undo(), 2);
        Edges.dueRow(Edges.partners(desk), 3, 4, -1, 0, 1);
        due(desk.count(1), 5);
    }

    static void p13_hundredsOfActs() {
        MorseDesk desk = Edges.of("ab");
        for (int i = 0; i < 240; i++) {
            due(desk.pair(i % 2, 2), 1);
            due(desk.part(2), 3);
        }
        for (int i = 15; i >= 0; i--) {
            due(desk.undo(), i);
        }
        due(desk.undo(), NONE);
        due(desk.count(4), 3);
    }
}
