/** Boundary cases of promises 1 to 7: what stands on the TAPE, what it tells, SIMPLICES by number and by letters. */
public final class TextEdgesTest {
    private static final int NONE = MorseDesk.NONE;

    private static final Edges.Start[] STARTS = {
        Edges.BARE,
        Edges.laden("abc,cd", desk -> {
            desk.pair(0, 4);
            desk.collapse(3);
            desk.pair(6, 8);
        }),
    };

    public static void main(String[] args) {
        Edges.run(TextEdgesTest.class, 1, 7);
    }

    private static void due(long got, long want) {
        Edges.due(got, want);
    }

    /** The FAULT of a text: 8 times the place, and its kind. */
    private static void dueFault(String text, int place, int kind) {
        due(Edges.tell(new MorseDesk(), text), -2 - (8 * place + kind));
    }

    private static void dueSimplices(String text, int many) {
        MorseDesk desk = new MorseDesk();
        due(Edges.tell(desk, text), many);
        due(desk.count(0), many);
    }

    // 1: No COMPLEX.

    static void p01_noComplex_nothingIsCounted() {
        MorseDesk desk = new MorseDesk();
        long[] want = {0, 0, NONE, 0, 0, 0, 0, 0, 0, 0};
        for (int what = 0; what < want.length; what++) {
            due(desk.count(what), want[what]);
        }
    }

    static void p01_noComplex_listsAreEmpty() {
        MorseDesk desk = new MorseDesk();
        for (int dim = 0; dim < 5; dim++) {
            due(desk.critical(dim, NONE), 0);
            due(desk.critical(dim, 0), -2);
            due(desk.room(dim), 0);
            due(desk.slack(dim), 0);
            for (int which = 0; which < 2; which++) {
                due(desk.betti(dim, which), 0);
                due(desk.torsion(dim, NONE, which), 0);
                due(desk.torsion(dim, 0, which), -2);
            }
        }
        due(desk.free(NONE), 0);
        due(desk.free(0), -2);
        due(desk.facet(NONE), 0);
        due(desk.facet(0), -2);
        due(desk.squares(), 0);
    }

    static void p01_noComplex_noNumberIsASimplex() {
        MorseDesk desk = new MorseDesk();
        for (int k : Edges.beyond(0)) {
            due(desk.simplex(k, 0), NONE);
            due(desk.sign(k, k), Edges.NO_INT);
            due(desk.pair(k, k), NONE);
            due(desk.part(k), NONE);
            due(desk.collapse(k), NONE);
            due(desk.root(k, 0), NONE);
            due(desk.link(k, 0), Edges.NO_INT);
            due(desk.chain(k, k), Edges.NO_LONG);
            due(desk.paths(k, k), NONE);
            due(desk.incidence(k, k), Edges.NO_LONG);
        }
        MorseDesk other = new MorseDesk();
        for (int letters = 0; letters < 256; letters++) {
            due(other.number(letters), NONE);
        }
    }

    static void p01_noComplex_actsAreRefused() {
        for (int k = 0; k < 3; k++) {
            int how = k;
            Edges.refused(Edges.BARE, desk -> desk.auto(how), NONE);
            Edges.refused(Edges.BARE, desk -> desk.keep(how), NONE);
            Edges.refused(Edges.BARE, desk -> desk.drawn(1, how), NONE);
        }
        Edges.refused(Edges.BARE, MorseDesk::undo, NONE);
    }

    static void p01_oneObjectKnowsNothingOfAnother() {
        MorseDesk one = Edges.ringInPairs();
        one.draws(7);
        one.keep(1);
        Edges.put(one, "gh");
        Edges.dueAlike(new MorseDesk(), new MorseDesk());
        p01_noComplex_nothingIsCounted();
        due(new MorseDesk().same(1), -2);
        due(one.count(3), 2);
    }

    // 2: feed.

    static void p02_eightTimesTwentyBytes() {
        MorseDesk desk = new MorseDesk();
        for (int i = 1; i <= 8; i++) {
            due(desk.feed(0, 0, 0, 0, 0), 20 * i);
            due(desk.count(9), 20 * i);
        }
    }

    static void p02_noneComesBeyond160() {
        for (int size = 141; size <= 160; size++) {
            int has = size;
            Edges.Start start = full -> {
                MorseDesk desk = Edges.laden("ab").make(full);
                desk.end(0);
                // The last letter shows that the last byte stands where it stood.
                Edges.put(desk, " ".repeat(has - 1) + "h");
                return desk;
            };
            due(start.make(false).count(9), has);
            Edges.refused(start, desk -> desk.feed(0x61616161, -1, 0, Edges.LEAST, Edges.MOST), NONE);
        }
    }

    static void p02_140And20Are160() {
        MorseDesk desk = new MorseDesk();
        Edges.put(desk, " ".repeat(140));
        due(desk.feed(0x20202020, 0x20202020, 0x20202020, 0x20202020, 0x20202068), 160);
        due(desk.complex(), 1);
        due(desk.simplex(0, 0), 128);
    }

    static void p02_theHighestByteIsTheFirst() {
        MorseDesk desk = new MorseDesk();
        due(desk.feed(0x6162632C, 0x64652C66, 0x672C6820, 0x20202020, 0x20202020), 20);
        due(desk.complex(), 14);
        due(desk.number(7), 13);
        due(desk.number(24), 11);
        due(desk.number(96), 12);
        due(desk.number(128), 7);
    }

    static void p02_eachOfTheTwentyPlaces() {
        for (int place = 0; place < 20; place++) {
            MorseDesk desk = new MorseDesk();
            int[] n = {0x20202020, 0x20202020, 0x20202020, 0x20202020, 0x20202020};
            n[place / 4] += 0xC1 << (24 - place % 4 * 8);
            due(desk.feed(n[0], n[1], n[2], n[3], n[4]), 20);
            due(desk.complex(), -2 - (8 * place + 1));
        }
    }

    static void p02_bytesComeBehindWhatIsLeft() {
        MorseDesk desk = new MorseDesk();
        desk.feed(0x61622C61, 0x61616161, 0x61616161, 0x61616161, 0x61616161);
        due(desk.end(3), 3);
        due(desk.feed(0x63642020, 0x20202020, 0x20202020, 0x20202020, 0x20202020), 23);
        due(desk.complex(), 6);
        due(desk.number(12), 5);
    }

    static void p02_theComplexStaysWhileBytesCome() {
        for (Edges.Start start : STARTS) {
            Edges.same(start, desk -> desk.feed(0, 0, 0, 0, 0) + desk.end(7), 27 + 7, desk -> { });
        }
    }

    // 3: end.

    static void p03_allThatItHas() {
        MorseDesk desk = new MorseDesk();
        due(desk.end(0), 0);
        desk.feed(0, 0, 0, 0, 0);
        due(desk.end(20), 20);
        due(desk.count(9), 20);
        Edges.put(desk, " ".repeat(140));
        due(desk.end(160), 160);
        due(desk.count(9), 160);
    }

    static void p03_noneOfWhatItHas() {
        MorseDesk desk = new MorseDesk();
        desk.feed(0x61616161, 0, 0, 0, 0);
        due(desk.end(0), 0);
        due(desk.count(9), 0);
        due(desk.complex(), -2 - 1);
    }

    static void p03_notSoMany() {
        for (int n : new int[] {8, 9, 20, 27, 160, 161, Edges.MOST}) {
            Edges.refusedOnAll(STARTS, desk -> desk.end(n), NONE);
        }
        MorseDesk empty = new MorseDesk();
        due(empty.end(1), NONE);
        due(empty.count(9), 0);
    }

    static void p03_whatWasCutOffDoesNotComeBack() {
        MorseDesk desk = new MorseDesk();
        Edges.put(desk, "ab,cd");
        due(desk.end(2), 2);
        due(desk.end(3), NONE);
        due(desk.end(5), NONE);
        due(desk.complex(), 3);
        due(desk.end(1), NONE);
    }

    static void p03_below0() {
        for (int n : new int[] {-1, -2, -160, Edges.LEAST}) {
            Edges.refusedOnAll(STARTS, desk -> desk.end(n), NONE);
        }
    }

    // 4: complex, and the texts of "Terms".

    static void p04_anEmptyText() {
        dueFault("", 0, 1);
        due(new MorseDesk().complex(), -3);
    }

    static void p04_blanksAlone() {
        dueFault(" ", 1, 1);
        dueFault("     ", 5, 1);
        dueFault(" ".repeat(160), 160, 1);
    }

    static void p04_aTextOf160Bytes() {
        dueSimplices(" ".repeat(159) + "h", 1);
        dueSimplices("h" + " ".repeat(159), 1);
        dueSimplices("a," + " ".repeat(153) + "bcdef", 32);
        dueFault("a" + " ".repeat(158) + ",", 160, 1);
        dueFault("a" + " ".repeat(158) + "b", 159, 1);
        dueFault(" ".repeat(158) + "aa", 159, 2);
        dueFault(" ".repeat(154) + "abcdef", 159, 3);
        dueSimplices("abcde,".repeat(23) + "edcba" + " ".repeat(17), 31);
    }

    static void p04_oneLetter() {
        for (int i = 0; i < 8; i++) {
            MorseDesk desk = new MorseDesk();
            due(Edges.tell(desk, "" + (char) ('a' + i)), 1);
            due(desk.simplex(0, 0), 1 << i);
        }
    }

    static void p04_fiveLetters() {
        dueSimplices("abcde", 31);
        dueSimplices("hgfed", 31);
        dueSimplices("chafe", 31);
    }

    static void p04_aSixthLetter() {
        dueFault("abcdef", 5, 3);
        dueFault("abcdefgh", 5, 3);
        dueFault("a,hgfedc", 7, 3);
        dueFault("  abcdef", 7, 3);
    }

    static void p04_aSixthLetterThatTheFacetHas_theLeastOfOnePlace() {
        dueFault("abcdea", 5, 2);
        dueFault("abcdee", 5, 2);
        dueFault("a, bcdefb", 8, 2);
    }

    static void p04_aSixthByteThatIsNoLetter() {
        dueFault("abcdei", 5, 1);
        dueFault("abcde!", 5, 1);
        dueFault("abcde f", 6, 1);
        dueFault("abcde,", 6, 1);
    }

    static void p04_aLetterThatTheFacetHas() {
        dueFault("aa", 1, 2);
        dueFault("aba", 2, 2);
        dueFault("abca", 3, 2);
        dueFault("hgfeg", 4, 2);
        dueFault("ab,bcb", 5, 2);
        dueFault("aaa", 1, 2);
    }

    static void p04_aLetterThatAnotherFacetHas() {
        dueSimplices("ab,ba", 3);
        dueSimplices("a,a,a", 1);
        dueSimplices("abc,cba,bca,ab,c", 7);
    }

    static void p04_24Facets() {
        dueSimplices("a,".repeat(23) + "b", 2);
        dueSimplices("ab,".repeat(23) + "cd ", 6);
        dueSimplices("abcde,".repeat(23) + "a", 31);
    }

    static void p04_a25thFacet() {
        dueFault("a,".repeat(24) + "a", 48, 4);
        dueFault("a,".repeat(24) + "h,b,c", 48, 4);
        dueFault("a,".repeat(24) + "   b", 51, 4);
        dueFault(" a ,".repeat(24) + "b", 96, 4);
    }

    static void p04_a25thFacetThatDoesNotBegin() {
        dueFault("a,".repeat(24), 48, 1);
        dueFault("a,".repeat(24) + "  ", 50, 1);
        dueFault("a,".repeat(24) + ",", 48, 1);
        dueFault("a,".repeat(24) + " i", 49, 1);
    }

    static void p04_whatIsWrongWithinA25thFacetIsNotReached() {
        dueFault("a,".repeat(24) + "bb", 48, 4);
        dueFault("a,".repeat(24) + "bcdefg", 48, 4);
        dueFault("a,".repeat(24) + "b!", 48, 4);
    }

    static void p04_60Simplices() {
        dueSimplices(Edges.SIXTY, 60);
        MorseDesk desk = Edges.of(Edges.SIXTY);
        due(desk.simplex(59, 0), 47);
        due(desk.simplex(59, 1), 4);
        due(desk.simplex(58, 0), 31);
        due(desk.number(128), 7);
    }

    static void p04_61Simplices() {
        dueFault(Edges.SIXTY + ",ag,ah", 32, 5);
        dueFault(Edges.SIXTY + ",ah", 29, 5);
        dueFault(Edges.SIXTY + ", ah", 30, 5);
        dueFault("abcde,abcdf,abefg", 12, 5);
        dueFault("abcde, bcdef,   abcdg", 16, 5);
    }

    static void p04_60SimplicesAndFacetsThatAddNone() {
        dueSimplices(Edges.SIXTY + ",abcde,fdcba,h,ge", 60);
        dueSimplices(Edges.SIXTY + ",a".repeat(17), 60);
        dueFault(Edges.SIXTY + ",a".repeat(18), 63, 4);
    }

    static void p04_tooManyAtA25thFacet_theLeastOfOnePlace() {
        dueFault("abcde,abcdf" + ",a".repeat(22) + ",aefgh", 56, 4);
        dueFault(Edges.SIXTY + ",a".repeat(17) + ",ah", 63, 4);
        dueFault(Edges.SIXTY + ",a".repeat(16) + ",ah", 61, 5);
    }

    static void p04_whatStandsBehindAFacetWithTooManyIsNotAsked() {
        for (String behind : new String[] {"", "!", "i", " ", " b", ",", ",,", " ,aa", "A", ",abcdef", "" + (char) 0}) {
            dueFault("abcde,bcdef,abcdg" + behind, 12, 5);
        }
    }

    static void p04_aFacetWithTooManyThatIsWrongAheadOfItsEnd() {
        dueFault("abcde,bcdef,abcdgd", 17, 2);
        dueFault("abcde,bcdef,abcdgh", 17, 3);
        dueFault("abcde,bcdef,abgdb", 16, 2);
        dueFault("abcde,bcdef,ghagh", 15, 2);
    }

    static void p04_blanksAroundFacets() {
        dueSimplices(" a", 1);
        dueSimplices("a ", 1);
        dueSimplices("  a  ", 1);
        dueSimplices("a ,b", 2);
        dueSimplices("a, b", 2);
        dueSimplices("   ab   ,   cd   ,   ef   ", 9);
    }

    static void p04_blanksWithinAFacet() {
        dueFault("a b", 2, 1);
        dueFault("ab  cd", 4, 1);
        dueFault("a,b c", 4, 1);
        dueFault(" a a", 3, 1);
    }

    static void p04_commas() {
        dueFault(",", 0, 1);
        dueFault(",a", 0, 1);
        dueFault(" ,a", 1, 1);
        dueFault("a,", 2, 1);
        dueFault("a,  ", 4, 1);
        dueFault("a,,b", 2, 1);
        dueFault("a, ,b", 3, 1);
    }

    static void p04_eachByteAtTheFirstPlace() {
        for (int b = 0; b < 256; b++) {
            String text = "" + (char) b;
            if (b >= 'a' && b <= 'h') {
                dueSimplices(text, 1);
            } else {
                dueFault(text, b == ' ' ? 1 : 0, 1);
            }
        }
    }

    static void p04_eachByteBehindALetter() {
        for (int b = 0; b < 256; b++) {
            String text = "a" + (char) b;
            if (b == 'a') {
                dueFault(text, 1, 2);
            } else if (b > 'a' && b <= 'h') {
                dueSimplices(text, 3);
            } else if (b == ' ') {
                dueSimplices(text, 1);
            } else {
                dueFault(text, b == ',' ? 2 : 1, 1);
            }
        }
    }

    static void p04_eachByteBehindABlankBehindALetter() {
        for (int b = 0; b < 256; b++) {
            String text = "a " + (char) b;
            if (b == ' ') {
                dueSimplices(text, 1);
            } else {
                dueFault(text, b == ',' ? 3 : 2, 1);
            }
        }
    }

    static void p04_eachByteBehindAComma() {
        for (int b = 0; b < 256; b++) {
            String text = "a," + (char) b;
            if (b >= 'a' && b <= 'h') {
                dueSimplices(text, b == 'a' ? 1 : 2);
            } else {
                dueFault(text, b == ' ' ? 3 : 2, 1);
            }
        }
    }

    static void p04_theFirstOfManyFaults() {
        dueFault("aa,!", 1, 2);
        dueFault("a!a,bb", 1, 1);
        dueFault("abcdefgg,,", 5, 3);
        dueFault("ab,cc,abcdefg", 4, 2);
    }

    static void p04_aFaultAndButForTheTapeNothingHappens() {
        String[] texts = {"", "  ", "a,", "i", "aa", "abcdef", "a,".repeat(24) + "a", "abcde,bcdef,abcdg", "gh,!"};
        int[] faults = {1, 17, 17, 1, 10, 43, 388, 101, 25};
        for (int i = 0; i < texts.length; i++) {
            String text = texts[i];
            for (Edges.Start start : STARTS) {
                Edges.same(start, desk -> Edges.tell(desk, text), -2 - faults[i], desk -> desk.end(0));
            }
        }
    }

    static void p04_theTapeIsEmptyThen() {
        MorseDesk desk = new MorseDesk();
        Edges.put(desk, "ab");
        due(desk.complex(), 3);
        due(desk.count(9), 0);
        due(desk.complex(), -3);
        due(desk.count(0), 3);
        Edges.put(desk, "ab,!");
        due(desk.complex(), -2 - 25);
        due(desk.count(9), 0);
        due(desk.end(1), NONE);
    }

    static void p04_aNewComplex_noPairs() {
        MorseDesk desk = Edges.ringInPairs();
        due(Edges.tell(desk, Edges.RING), 6);
        due(desk.count(3), 0);
        due(desk.count(4), 6);
        Edges.dueRow(Edges.partners(desk), -1, -1, -1, -1, -1, -1);
    }

    static void p04_aNewComplex_nothingCanBeUndone() {
        MorseDesk desk = Edges.laden(Edges.SOLID, d -> d.collapse(3)).make(true);
        due(desk.count(7), 16);
        due(Edges.tell(desk, "ab"), 3);
        due(desk.count(7), 0);
        due(desk.undo(), NONE);
        due(desk.count(0), 3);
        due(desk.count(1), 3);
        desk.pair(0, 2);
        due(desk.undo(), 0);
        due(desk.undo(), NONE);
    }

    static void p04_aNewComplex_xStays() {
        MorseDesk desk = new MorseDesk();
        desk.draws(Edges.MOST);
        due(Edges.tell(desk, "ab"), 3);
        due(desk.count(8), Edges.MOST);
        due(Edges.tell(desk, "ab,"), -2 - 25);
        due(desk.count(8), Edges.MOST);
    }

    static void p04_aNewComplex_allIsThere() {
        MorseDesk desk = Edges.onePoint();
        due(desk.count(1), 1);
        due(Edges.tell(desk, Edges.SOLID), 7);
        due(desk.count(1), 7);
        for (int k = 0; k < 7; k++) {
            due(desk.simplex(k, 2), 1);
        }
    }

    static void p04_aNewComplex_nothingOfTheOldOneIsLeft() {
        MorseDesk desk = Edges.of(Edges.SIXTY);
        desk.auto(0);
        due(Edges.tell(desk, "h"), 1);
        Edges.dueAlike(desk, Edges.of("h"));
        due(desk.simplex(1, 0), NONE);
        due(desk.simplex(59, 0), NONE);
        due(desk.number(1), NONE);
        due(desk.count(2), 0);
        due(desk.betti(0, 0), 1);
        due(desk.betti(4, 0), 0);
    }

    static void p04_aNewComplex_isAsOfANewObject() {
        String[] texts = {"a,b,c,d,e,f,g,h", "ab,cd,ef,gh", "abcde", Edges.PLANE, Edges.RING, "bc,ac,h", Edges.SOLID};
        for (String first : texts) {
            for (String second : texts) {
                MorseDesk desk = Edges.of(first);
                desk.auto(0);
                desk.collapse(desk.free(0));
                Edges.tell(desk, second);
                MorseDesk fresh = Edges.of(second);
                Edges.dueAlike(desk, fresh);
                due(desk.auto(1), fresh.auto(1));
                Edges.dueRow(Edges.partners(desk), Edges.partners(fresh));
            }
        }
    }

    static void p04_numberedByDimThenByLettersAsBits() {
        MorseDesk desk = Edges.of("hd,gab");
        long[] want = {1, 2, 8, 64, 128, 3, 65, 66, 136, 67};
        for (int k = 0; k < want.length; k++) {
            due(desk.simplex(k, 0), want[k]);
        }
        due(desk.count(0), 10);
    }

    // 5: simplex.

    static void p05_noSuchNumber() {
        for (int what = 0; what < 7; what++) {
            int asked = what;
            for (int k : Edges.beyond(9)) {
                due(STARTS[1].make(false).simplex(k, asked), NONE);
            }
            Edges.refusedOnAll(STARTS, desk -> desk.simplex(9, asked), NONE);
            Edges.refusedOnAll(STARTS, desk -> desk.simplex(-1, asked), NONE);
        }
        MorseDesk full = Edges.of(Edges.SIXTY);
        for (int k : Edges.beyond(60)) {
            due(full.simplex(k, 2), NONE);
        }
        due(full.simplex(59, 2), 1);
    }

    static void p05_noSuchWhat() {
        for (int what : new int[] {-1, 7, 8, 64, Edges.LEAST, Edges.MOST}) {
            Edges.refusedOnAll(STARTS, desk -> desk.simplex(0, what), NONE);
        }
    }

    static void p05_noPartner() {
        MorseDesk desk = Edges.of(Edges.SOLID);
        for (int k = 0; k < 7; k++) {
            due(desk.simplex(k, 3), NONE);
            due(desk.simplex(k, 4), NONE);
        }
        desk.pair(0, 3);
        due(desk.simplex(0, 4), 1);
        due(desk.simplex(3, 4), 0);
        due(desk.simplex(1, 4), NONE);
        due(desk.simplex(6, 4), NONE);
        desk.part(0);
        due(desk.simplex(0, 3), NONE);
        due(desk.simplex(3, 4), NONE);
    }

    static void p05_ofOneThatIsGone() {
        MorseDesk desk = Edges.of(Edges.SOLID);
        desk.pair(3, 6);
        due(desk.collapse(3), 5);
        long[] edge = {3, 1, 0, NONE, NONE, NONE, 0, NONE};
        long[] triangle = {7, 2, 0, NONE, NONE, NONE, 0, NONE};
        for (int what = 0; what < 8; what++) {
            due(desk.simplex(3, what), edge[what]);
            due(desk.simplex(6, what), triangle[what]);
        }
        desk.undo();
        due(desk.simplex(3, 2), 1);
        due(desk.simplex(3, 3), 6);
        due(desk.simplex(6, 5), 2);
    }

    static void p05_heightWithoutPairsIsDim() {
        MorseDesk desk = Edges.of("abcde,fg,h");
        for (int k = 0; k < desk.count(0); k++) {
            due(desk.simplex(k, 5), desk.simplex(k, 1));
        }
    }

    static void p05_heightGoesUpAndDownAlongPairs() {
        MorseDesk desk = Edges.of("ab,bc,cd,de,ef,fg,gh");
        for (int k = 0; k < 7; k++) {
            due(desk.pair(k, 8 + k), 13 - 2 * k);
        }
        for (int k = 0; k < 8; k++) {
            due(desk.simplex(k, 5), 14 - 2 * k);
        }
        for (int k = 0; k < 7; k++) {
            due(desk.simplex(8 + k, 5), 13 - 2 * k);
        }
    }

    private static void dueHeights(MorseDesk desk, long... want) {
        long[] got = new long[want.length];
        for (int k = 0; k < got.length; k++) {
            got[k] = desk.simplex(k, 5);
        }
        Edges.dueRow(got, want);
    }

    static void p05_heightIsThatOfNow() {
        MorseDesk desk = Edges.of(Edges.SOLID);
        dueHeights(desk, 0, 0, 0, 1, 1, 1, 2);
        desk.pair(0, 3);
        dueHeights(desk, 2, 0, 0, 1, 3, 1, 4);
        desk.pair(1, 5);
        dueHeights(desk, 4, 2, 0, 3, 5, 1, 6);
        desk.part(3);
        dueHeights(desk, 0, 2, 0, 3, 1, 1, 4);
        desk.pair(0, 4);
        desk.part(1);
        dueHeights(desk, 2, 0, 0, 3, 1, 1, 4);
        desk.cancel(5, 1);
        dueHeights(desk, 2, 2, 0, 3, 1, 1, 4);
        desk.collapse(3);
        dueHeights(desk, 2, 2, 0, NONE, 1, 1, NONE);
        desk.auto(0);
        dueHeights(desk, 2, 2, 0, NONE, 1, 1, NONE);
        desk.auto(1);
        dueHeights(desk, 4, 0, 2, NONE, 3, 1, NONE);
        desk.undo();
        desk.undo();
        desk.undo();
        dueHeights(desk, 2, 2, 0, 3, 1, 1, 4);
        Edges.tell(desk, "ab,c");
        dueHeights(desk, 0, 0, 0, 1);
    }

    static void p05_ofHowManyThere() {
        MorseDesk desk = Edges.of(Edges.SOLID);
        due(desk.simplex(0, 6), 2);
        due(desk.simplex(3, 6), 1);
        due(desk.simplex(6, 6), 0);
        desk.collapse(3);
        due(desk.simplex(0, 6), 1);
        due(desk.simplex(2, 6), 2);
        due(desk.simplex(4, 6), 0);
        due(Edges.onePoint().simplex(2, 6), 0);
    }

    // 6: number.

    static void p06_lettersOfNoSimplex() {
        for (int letters : new int[] {0, 8, 9, 16, 128, 15, 255, 11}) {
            Edges.refusedOnAll(new Edges.Start[] {Edges.BARE, Edges.laden(Edges.SOLID)},
                    desk -> desk.number(letters), NONE);
        }
    }

    static void p06_noLettersAtAll() {
        due(Edges.of("a").number(0), NONE);
        due(Edges.of(Edges.SIXTY).number(0), NONE);
    }

    static void p06_bitsBeyondTheEightLetters() {
        MorseDesk desk = Edges.of(Edges.SOLID);
        for (int letters : new int[] {256, 257, 256 + 7, 512 + 1, 65536 + 1, -1, -255, -256, Edges.LEAST,
            Edges.LEAST + 1, Edges.MOST}) {
            due(desk.number(letters), NONE);
        }
    }

    static void p06_everyNumberComesBack() {
        MorseDesk desk = Edges.of(Edges.SIXTY);
        for (int k = 0; k < 60; k++) {
            due(desk.number(desk.simplex(k, 0)), k);
        }
        int found = 0;
        for (int letters = 0; letters < 256; letters++) {
            found += desk.number(letters) == NONE ? 0 : 1;
        }
        due(found, 60);
    }

    static void p06_ofTheOldComplex() {
        MorseDesk desk = Edges.of(Edges.SOLID);
        Edges.tell(desk, "d");
        due(desk.number(1), NONE);
        due(desk.number(7), NONE);
        due(desk.number(8), 0);
    }

    // 7: sign.

    static void p07_noSuchNumbers() {
        for (int k : Edges.beyond(7)) {
            MorseDesk desk = Edges.of(Edges.SOLID);
            due(desk.sign(k, 6), Edges.NO_INT);
            due(desk.sign(0, k), Edges.NO_INT);
            due(desk.sign(k, k), Edges.NO_INT);
        }
        Edges.refused(Edges.BARE, desk -> desk.sign(0, 0), Edges.NO_INT);
        Edges.refused(STARTS[1], desk -> desk.sign(9, 8), Edges.NO_INT);
    }

    static void p07_noFaceOfIt() {
        MorseDesk desk = Edges.of(Edges.SOLID);
        due(desk.sign(0, 6), 0);
        due(desk.sign(2, 3), 0);
        due(desk.sign(3, 0), 0);
        due(desk.sign(6, 6), 0);
        due(desk.sign(3, 4), 0);
        due(desk.sign(6, 3), 0);
    }

    static void p07_aPointHasNoFace() {
        MorseDesk desk = Edges.of("a,b");
        due(desk.sign(0, 0), 0);
        due(desk.sign(0, 1), 0);
        due(desk.sign(1, 0), 0);
    }

    static void p07_eachOfFiveLetters() {
        MorseDesk desk = Edges.of("hfdba");
        int all = 1 + 2 + 8 + 32 + 128;
        int[] bits = {1, 2, 8, 32, 128};
        for (int i = 0; i < 5; i++) {
            due(desk.sign(desk.number(all - bits[i]), 30), i % 2 == 0 ? 1 : -1);
        }
        due(desk.sign(0, desk.number(3)), -1);
        due(desk.sign(1, desk.number(3)), 1);
    }

    static void p07_whetherGoneOrNot() {
        MorseDesk desk = Edges.onePoint();
        due(desk.sign(3, 6), 1);
        due(desk.sign(4, 6), -1);
        due(desk.sign(5, 6), 1);
        due(desk.sign(0, 3), -1);
        due(desk.sign(2, 4), 1);
        due(desk.sign(0, 6), 0);
    }
}
