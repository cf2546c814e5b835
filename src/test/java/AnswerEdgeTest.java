import java.util.function.ToIntBiFunction;

/** For each sentence of the promises 19 to 50 that names a boundary case a test of its own. */
public final class AnswerEdgeTest extends Checks {
    private static final String[] ONE_FACE_TO_256 = {"points 1", "points 8", "cube 2", UNEVEN, "simplex 8"};
    private static final String FANO = "points 7;facet 0 1 2;facet 0 3 4;facet 0 5 6;facet 1 3 5;facet 1 4 6"
            + ";facet 2 3 6;facet 2 4 5";

    public static void main(String[] args) throws IllegalAccessException {
        runAll(AnswerEdgeTest.class, "promise", 19, 50);
    }

    private static void missing(String text, int count, ToIntBiFunction<FaceLattice, Integer> question) {
        FaceLattice x = of(text);
        for (int number : beyond(count)) {
            throwsDue("number " + number + " of " + text, INDEX, () -> question.applyAsInt(x, number));
        }
        due(text + " is the same", stateOf(x), stateOf(of(text)));
    }

    private static void pointMissing(ToIntBiFunction<FaceLattice, Integer> question) {
        for (String text : new String[] {"points 1", "points 8", "cube 2", TEN}) {
            missing(text, of(text).pointCount(), question);
        }
    }

    private static void facetMissing(ToIntBiFunction<FaceLattice, Integer> question) {
        for (String text : new String[] {"points 1", "points 8", "cube 2", TEN}) {
            missing(text, of(text).facetCount(), question);
        }
    }

    private static void faceMissing(ToIntBiFunction<FaceLattice, Integer> question) {
        for (String text : ONE_FACE_TO_256) {
            missing(text, of(text).faceCount(), question);
        }
    }

    // Promises 19 to 23: points and facets

    static void promise19_oneToEight() {
        due("a new object", new FaceLattice().pointCount(), 1);
        for (int n = 1; n <= 8; n++) {
            due("points " + n, of("points " + n).pointCount(), n);
        }
        due("cube 3", of("cube 3").pointCount(), 8);
        FaceLattice x = of("simplex 7");
        x.pyramid();
        due("the eighth", x.pointCount(), 8);
        x.keepFace(1);
        due("one alone", x.pointCount(), 1);
    }

    static void promise20_noneToTen() {
        due("a new object", new FaceLattice().facetCount(), 0);
        due("ten", of(TEN).facetCount(), 10);
        FaceLattice x = of("simplex 8;facet 0");
        x.addFacet(0);
        due("the tenth", x.facetCount(), 10);
        FaceLattice y = of("points 2;facet 1");
        y.removeFacet(0);
        due("none left", y.facetCount(), 0);
        due("equal ones count each", of("points 1;facet 0;facet 0").facetCount(), 2);
    }

    static void promise21_facetsAtBothEnds() {
        FaceLattice x = of("points 8" + ";facet 3".repeat(8) + ";facet 0 7;facet 7 6 5 4 3 2 1 0");
        due("the first", x.facet(0), 8);
        due("the last but one", x.facet(8), 129);
        due("the last of all points", x.facet(9), 255);
        x.setIncident(3, 0, false);
        due("without points", x.facet(0), 0);
    }

    static void promise21_theFacetDoesNotExist() {
        facetMissing((x, f) -> x.facet(f));
        FaceLattice y = of("cube 2");
        y.removeFacet(0);
        throwsDue("the last is gone", INDEX, () -> y.facet(3));
    }

    static void promise22_pointsAtBothEnds() {
        FaceLattice x = of("points 8" + ";facet 0".repeat(9) + ";facet 0 7");
        due("in all ten", x.facetsOf(0), 1023);
        due("in the last", x.facetsOf(7), 512);
        due("in none", x.facetsOf(6), 0);
        due("no facets", new FaceLattice().facetsOf(0), 0);
    }

    static void promise22_thePointDoesNotExist() {
        pointMissing((x, p) -> x.facetsOf(p));
    }

    static void promise22_equalFacets() {
        due("both", of("points 2;facet 1;facet 0;facet 1").facetsOf(1), 5);
    }

    static void promise23_noPointsAndAllPoints() {
        FaceLattice x = of("points 8;facet 1 7;facet 7");
        due("none", x.closure(0), 128);
        due("all", x.closure(255), 255);
        due("the last", x.closure(128), 128);
        due("no facets", new FaceLattice().closure(0), 1);
    }

    static void promise23_somethingThatIsNotAPoint() {
        for (int n = 1; n <= 8; n++) {
            FaceLattice x = of("points " + n + ";facet 0");
            for (int bit = n; bit < 32; bit++) {
                int alone = 1 << bit;
                throwsDue(n + " points, bit " + bit, ARGUMENT, () -> x.closure(alone));
                throwsDue(n + " points, bit " + bit + " and 0", ARGUMENT, () -> x.closure(alone | 1));
            }
            throwsDue(n + " points, all bits", ARGUMENT, () -> x.closure(-1));
            throwsDue(n + " points, the greatest", ARGUMENT, () -> x.closure(HIGH));
            due(n + " points, all of them", x.closure((1 << n) - 1), (1 << n) - 1);
        }
    }

    // Promises 24 to 36: faces

    static void promise24_oneFaceAnd256() {
        due("a new object", new FaceLattice().faceCount(), 1);
        due("no facets", of("points 8").faceCount(), 1);
        due("a facet of all points", of("points 2;facet 0 1").faceCount(), 1);
        due("simplex 8", of("simplex 8").faceCount(), 256);
        due("simplex 8 and more", of("simplex 8;facet 0 1;facet 7").faceCount(), 256);
        FaceLattice x = of("simplex 8");
        x.setIncident(0, 0, true);
        due("half of it", x.faceCount(), 128);
    }

    static void promise24_equalFacetsMakeNoMoreFaces() {
        due("one facet", of("points 3;facet 1").faceCount(), 2);
        due("ten equal ones", of("points 3" + ";facet 1".repeat(10)).faceCount(), 2);
    }

    static void promise25_facesAtBothEnds() {
        FaceLattice x = of("simplex 8");
        due("the first", x.face(0), 0);
        due("the second", x.face(1), 1);
        due("the last but one", x.face(254), 254);
        due("the last", x.face(255), 255);
        due("the only one", new FaceLattice().face(0), 1);
        due("the only one of 8 points", of("points 8").face(0), 255);
    }

    static void promise25_theFaceDoesNotExist() {
        faceMissing((x, c) -> x.face(c));
        FaceLattice y = of("simplex 8");
        y.removeFacet(0);
        throwsDue("there were more before", INDEX, () -> y.face(128));
    }

    static void promise26_facesAtBothEnds() {
        FaceLattice x = of("simplex 8");
        due("the first", x.indexOf(0), 0);
        due("the last", x.indexOf(255), 255);
        due("the only one", new FaceLattice().indexOf(1), 0);
        for (String text : SMALL) {
            FaceLattice y = of(text);
            for (int c = 0; c <= last(y); c++) {
                due(text + ", face " + c, y.indexOf(y.face(c)), c);
            }
        }
    }

    static void promise26_noneIfThereIsNone() {
        due("no points", new FaceLattice().indexOf(0), NONE);
        due("two points of a square", of("cube 2").indexOf(9), NONE);
        due("one of two alike", of("points 2").indexOf(1), NONE);
        FaceLattice x = of("simplex 8");
        x.removeFacet(0);
        due("a face before", x.indexOf(0), NONE);
    }

    static void promise26_otherBitsMayBeSet() {
        FaceLattice x = of("cube 2");
        for (int bit = 4; bit < 32; bit++) {
            due("a face and bit " + bit, x.indexOf(15 | 1 << bit), NONE);
            due("bit " + bit, x.indexOf(1 << bit), NONE);
        }
        due("all bits", x.indexOf(-1), NONE);
        due("all bits but the first four", x.indexOf(-16), NONE);
        due("the least", x.indexOf(LOW), NONE);
        due("the greatest", x.indexOf(HIGH), NONE);
        due("eight points and bit 8", of("simplex 8").indexOf(511), NONE);
        due("bit 8", of("simplex 8").indexOf(256), NONE);
        due("bit 31", of("simplex 8").indexOf(LOW), NONE);
        FaceLattice y = of("simplex 8");
        load(y, "cube 2");
        due("points before", y.indexOf(16), NONE);
        due("all points before", y.indexOf(255), NONE);
    }

    private static void load(FaceLattice x, String text) {
        type(x, text);
        x.load();
    }

    static void promise27_ranksAtBothEnds() {
        FaceLattice x = of("simplex 8");
        due("the first", x.rank(0), 0);
        due("the second", x.rank(1), 1);
        due("the last of rank 1", x.rank(8), 1);
        due("the first of rank 2", x.rank(9), 2);
        due("the last but one", x.rank(254), 7);
        due("the last", x.rank(255), 8);
        due("the only one", of("points 8").rank(0), 0);
    }

    static void promise27_theFaceDoesNotExist() {
        faceMissing((x, c) -> x.rank(c));
    }

    static void promise28_noneToEight() {
        due("one face", new FaceLattice().height(), 0);
        due("two faces", of("points 8;facet 0").height(), 1);
        for (int n = 2; n <= 8; n++) {
            due("simplex " + n, of("simplex " + n).height(), n);
        }
        due("the longest way counts", of("points 5;facet 4;facet 0;facet 0 1;facet 0 1 2").height(), 4);
    }

    static void promise29_rank0AndTheHeight() {
        for (String text : ONE_FACE_TO_256) {
            FaceLattice x = of(text);
            due(text + ": rank 0", x.ofRank(0), 1);
            due(text + ": the height", x.ofRank(x.height()), 1);
            int sum = 0;
            for (int rank = 0; rank <= x.height(); rank++) {
                sum += x.ofRank(rank);
            }
            due(text + ": all", sum, x.faceCount());
        }
        due("half-way", of("simplex 8").ofRank(4), 70);
    }

    static void promise29_rankIsOutOfRange() {
        for (String text : ONE_FACE_TO_256) {
            FaceLattice x = of(text);
            for (int rank : beyond(x.height() + 1)) {
                throwsDue(text + ": rank " + rank, ARGUMENT, () -> x.ofRank(rank));
            }
        }
        FaceLattice y = of("simplex 8");
        load(y, "cube 1");
        throwsDue("a rank before", ARGUMENT, () -> y.ofRank(3));
    }

    static void promise30_theFirstFaceAndTheLast() {
        FaceLattice x = of("simplex 8");
        due("up from the first", x.covers(0, true), 8);
        due("down from the first", x.covers(0, false), 0);
        due("up from the last", x.covers(255, true), 0);
        due("down from the last", x.covers(255, false), 8);
        due("up from the only one", new FaceLattice().covers(0, true), 0);
        due("down from the only one", new FaceLattice().covers(0, false), 0);
    }

    static void promise30_theFaceDoesNotExist() {
        faceMissing((x, c) -> x.covers(c, true));
        faceMissing((x, c) -> x.covers(c, false));
    }

    static void promise31_indicesAtBothEnds() {
        FaceLattice x = of("simplex 8");
        due("the first up", x.cover(0, true, 0), 1);
        due("the last up", x.cover(0, true, 7), 8);
        due("the first down", x.cover(255, false, 0), 247);
        due("the last down", x.cover(255, false, 7), 254);
        due("the only one up", x.cover(254, true, 0), 255);
        due("the only one down", x.cover(8, false, 0), 0);
    }

    static void promise31_theIndexDoesNotExist() {
        for (String text : ONE_FACE_TO_256) {
            FaceLattice x = of(text);
            for (int face : new int[] {0, last(x) / 2, last(x)}) {
                for (int way = 0; way < 2; way++) {
                    boolean up = way == 1;
                    for (int index : beyond(x.covers(face, up))) {
                        throwsDue(text + ": index " + index, INDEX, () -> x.cover(face, up, index));
                    }
                }
            }
        }
    }

    static void promise31_theFaceDoesNotExist() {
        faceMissing((x, c) -> x.cover(c, true, 0));
        faceMissing((x, c) -> x.cover(c, false, 0));
        faceMissing((x, c) -> x.cover(c, true, -1));
    }

    static void promise31_theFirstOneInTheOrderOfTheFaces() {
        FaceLattice x = of("points 5;facet 4;facet 3 4;facet 0;facet 1 2;facet 1");
        facesDue("faces", x, 0, 1, 2, 16, 6, 24, 31);
        int[] below = {1, 4, 5};
        for (int k = 0; k < 3; k++) {
            due("down, index " + k, x.cover(6, false, k), below[k]);
        }
        int[] above = {1, 2, 3};
        for (int k = 0; k < 3; k++) {
            due("up, index " + k, x.cover(0, true, k), above[k]);
        }
    }

    static void promise32_ofAFaceAndItselfTheFirstAndTheLast() {
        for (String text : SMALL) {
            FaceLattice x = of(text);
            int last = last(x);
            for (int c = 0; c <= last; c++) {
                due(text + ", itself", x.join(c, c), c);
                due(text + ", the first", x.join(c, 0), c);
                due(text + ", the first", x.join(0, c), c);
                due(text + ", the last", x.join(c, last), last);
            }
        }
    }

    static void promise32_theLeastThatContainsBoth() {
        FaceLattice x = of("cube 3");
        due("the ends of an edge", x.join(1, 2), x.indexOf(3));
        due("the ends of a side", x.join(1, 4), x.indexOf(15));
        due("the ends of the cube", x.join(1, 8), 27);
        due("one contains the other", x.join(1, x.indexOf(3)), x.indexOf(3));
    }

    static void promise32_oneDoesNotExist() {
        faceMissing((x, c) -> x.join(c, 0));
        faceMissing((x, c) -> x.join(0, c));
        faceMissing((x, c) -> x.join(c, c));
    }

    static void promise33_ofAFaceAndItselfTheFirstAndTheLast() {
        for (String text : SMALL) {
            FaceLattice x = of(text);
            int last = last(x);
            for (int c = 0; c <= last; c++) {
                due(text + ", itself", x.meet(c, c), c);
                due(text + ", the last", x.meet(c, last), c);
                due(text + ", the last", x.meet(last, c), c);
                due(text + ", the first", x.meet(c, 0), 0);
            }
        }
    }

    static void promise33_theGreatestThatIsInBoth() {
        FaceLattice x = of("cube 3");
        due("two sides", x.meet(x.indexOf(15), x.indexOf(0x55)), x.indexOf(5));
        due("opposite sides", x.meet(x.indexOf(15), x.indexOf(240)), 0);
        due("one contains the other", x.meet(1, x.indexOf(3)), 1);
        FaceLattice y = of("points 3;facet 0 1;facet 0 2");
        due("the first has a point", y.meet(1, 2), 0);
    }

    static void promise33_oneDoesNotExist() {
        faceMissing((x, c) -> x.meet(c, 0));
        faceMissing((x, c) -> x.meet(0, c));
        faceMissing((x, c) -> x.meet(c, c));
    }

    static void promise34_bothIncluded() {
        FaceLattice x = of("simplex 8");
        due("all", x.between(0, 255), 256);
        due("itself", x.between(200, 200), 1);
        due("a cover", x.between(0, 1), 2);
        due("the only face", new FaceLattice().between(0, 0), 1);
    }

    static void promise34_notContainedInTheOther() {
        FaceLattice x = of("cube 3");
        due("two points", x.between(1, 2), 0);
        due("the wrong way", x.between(27, 0), 0);
        due("the wrong way by one", x.between(1, 0), 0);
        due("a point and a side without it", x.between(1, x.indexOf(240)), 0);
    }

    static void promise34_oneDoesNotExist() {
        faceMissing((x, c) -> x.between(c, 0));
        faceMissing((x, c) -> x.between(0, c));
        faceMissing((x, c) -> x.between(c, c));
    }

    static void promise35_oneAnd40320() {
        FaceLattice x = of("simplex 8");
        due("all", x.chains(0, 255), 40320);
        due("itself", x.chains(255, 255), 1);
        due("a cover", x.chains(0, 8), 1);
        due("from a point", x.chains(8, 255), 5040);
        due("the only face", new FaceLattice().chains(0, 0), 1);
    }

    static void promise35_notContainedInTheOther() {
        FaceLattice x = of("cube 3");
        x.chains(0, 27);
        due("two points", x.chains(1, 2), 0);
        due("the wrong way", x.chains(27, 0), 0);
        due("the wrong way by one", x.chains(1, 0), 0);
        due("a point and a side without it", x.chains(1, x.indexOf(240)), 0);
    }

    static void promise35_oneDoesNotExist() {
        faceMissing((x, c) -> x.chains(c, 0));
        faceMissing((x, c) -> x.chains(0, c));
        faceMissing((x, c) -> x.chains(c, c));
    }

    static void promise36_ofAFaceAndItself() {
        due("the only face", new FaceLattice().mobius(0, 0), 1);
        due("the first of 256", of("simplex 8").mobius(0, 0), 1);
        due("the last of 256", of("simplex 8").mobius(255, 255), 1);
        due("the first and the last", of("simplex 8").mobius(0, 255), 1);
        due("by one less", of("simplex 8").mobius(1, 255), -1);
    }

    static void promise36_notContainedInTheOther() {
        FaceLattice x = of("cube 3");
        x.mobius(0, 27);
        due("two points", x.mobius(1, 2), 0);
        due("the wrong way", x.mobius(27, 0), 0);
        due("the wrong way by one", x.mobius(1, 0), 0);
        due("a point and a side without it", x.mobius(1, x.indexOf(240)), 0);
    }

    static void promise36_oneDoesNotExist() {
        faceMissing((x, c) -> x.mobius(c, 0));
        faceMissing((x, c) -> x.mobius(0, c));
        faceMissing((x, c) -> x.mobius(c, c));
    }

    // Promises 37 to 42: kinds

    static void promise37_eachFaceThatItCovers() {
        due("uneven", of(UNEVEN).isGraded(), false);
        due("uneven far below the last", of("points 5;facet 0;facet 0 1;facet 2 3;facet 0 1 2 3").isGraded(), false);
        due("one face", new FaceLattice().isGraded(), true);
        due("two faces", of("points 2;facet 0").isGraded(), true);
        due("256 faces", of("simplex 8").isGraded(), true);
        due("a chain", of("points 4;facet 0;facet 0 1;facet 0 1 2").isGraded(), true);
    }

    static void promise38_evenMinusOdd() {
        due("one face", new FaceLattice().alternating(), 1);
        due("two faces", of("points 2;facet 0").alternating(), 0);
        due("three faces", of("points 3;facet 0;facet 0 1").alternating(), 1);
        due("256 faces", of("simplex 8").alternating(), 0);
        due("the most of odd rank", of("points 8;facet 0;facet 1;facet 2;facet 3;facet 4;facet 5;facet 6;facet 7")
                .alternating(), -6);
        due("of unlike ways", of(UNEVEN).alternating(), -1);
    }

    static void promise39_ofEachTwoFaces() {
        due("one face", new FaceLattice().isEulerian(), true);
        due("two faces", of("points 2;facet 0").isEulerian(), true);
        due("three in a chain", of("points 3;facet 0;facet 0 1").isEulerian(), false);
        due("one between", of("points 2;facet 0;facet 1").isEulerian(), true);
        due("three between", of("points 3;facet 0;facet 1;facet 2").isEulerian(), false);
        due("256 faces", of("simplex 8").isEulerian(), true);
        due("wrong above one point", of("points 4;facet 0 1;facet 0 2;facet 0 3").isEulerian(), false);
        due("two rings", of(TWO_RINGS).isEulerian(), true);
        due("two spheres: only the first and the last", of("points 8;facet 0 1 2;facet 0 1 3;facet 0 2 3"
                + ";facet 1 2 3;facet 4 5 6;facet 4 5 7;facet 4 6 7;facet 5 6 7").isEulerian(), false);
    }

    static void promise39_theyMustBeGraded() {
        String notGraded = "points 4;facet 0;facet 0 1;facet 2 3;facet 1";
        FaceLattice x = of(notGraded);
        due("not graded", x.isGraded(), false);
        due("so not Eulerian", x.isEulerian(), false);
        due("uneven", of(UNEVEN).isEulerian(), false);
    }

    /** A projective plane and a point apart: a way of length 4 and one of length 2, but signs as they should be. */
    static void promise39_theyMustBeGradedThoughTheNumbersAlternate() {
        FaceLattice x = of("points 8;facet 1 2 4 6;facet 0 2 3 6;facet 0 1 5 6;facet 0 3 4;facet 0 4 5;facet 2 3 5"
                + ";facet 1 3 4;facet 2 4 5;facet 1 3 5;facet 7");
        int last = last(x);
        due("the first and the last", x.mobius(0, last), 1);
        due("the point apart and the last", x.mobius(x.indexOf(128), last), -1);
        due("their ranks", x.rank(last) - x.rank(x.indexOf(128)), 3);
        due("graded", x.isGraded(), false);
        due("Eulerian", x.isEulerian(), false);
        x.removeFacet(9);
        due("without the point's facet: not Eulerian either", x.isEulerian(), false);
    }

    static void promise40_eachFaceButTheLastOne() {
        due("the last does not matter", of("points 3;facet 0;facet 1;facet 2").isSimplicial(), true);
        due("three in a chain", of("points 3;facet 0;facet 0 1").isSimplicial(), true);
        due("four in a chain", of("points 4;facet 0;facet 0 1;facet 0 1 2").isSimplicial(), false);
        due("one face", new FaceLattice().isSimplicial(), true);
        due("256 faces", of("simplex 8").isSimplicial(), true);
        due("a cube", of("cube 3").isSimplicial(), false);
        due("a cross", of("cross 3").isSimplicial(), true);
        due("one side too many", of("points 5;facet 0 1;facet 1 2;facet 2 3;facet 0 3;facet 0 1 2 3").isSimplicial(),
                false);
    }

    static void promise41_eachFaceButTheFirstOne() {
        due("the first does not matter", of("points 3;facet 0;facet 1;facet 2").isSimple(), true);
        due("three in a chain", of("points 3;facet 0;facet 0 1").isSimple(), true);
        due("four in a chain", of("points 4;facet 0;facet 0 1;facet 0 1 2").isSimple(), false);
        due("one face", new FaceLattice().isSimple(), true);
        due("256 faces", of("simplex 8").isSimple(), true);
        due("a cube", of("cube 3").isSimple(), true);
        due("a cross", of("cross 3").isSimple(), false);
    }

    static void promise42_oneAnd40320() {
        due("one face", new FaceLattice().flags(), 1);
        due("one face of 8 points", of("points 8").flags(), 1);
        due("two faces", of("points 2;facet 0").flags(), 1);
        due("256 faces", of("simplex 8").flags(), 40320);
        due("of unlike length", of(UNEVEN).flags(), 2);
    }

    // Promises 43 to 46: paths

    static void promise43_pointsAndFacetsAtBothEnds() {
        FaceLattice x = of("cycle 8");
        due("the first point", x.neighbours(0, false), 130);
        due("the last point", x.neighbours(7, false), 65);
        due("the first facet", x.neighbours(0, true), 130);
        due("the last facet", x.neighbours(7, true), 65);
        FaceLattice ten = of("points 8;facet 0;facet 1;facet 2;facet 3;facet 4;facet 5;facet 6;facet 7;facet 0;facet 1");
        due("the tenth facet", ten.neighbours(9, true), 511 - 2);
        due("the first facet of ten", ten.neighbours(0, true), 1023 - 1 - 256);
        due("all others", of("simplex 8").neighbours(7, false), 127);
    }

    static void promise43_thePointOrTheFacetDoesNotExist() {
        pointMissing((x, p) -> x.neighbours(p, false));
        facetMissing((x, f) -> x.neighbours(f, true));
        FaceLattice x = of("points 2;facet 0;facet 1;facet 0");
        throwsDue("point 2, though there is facet 2", INDEX, () -> x.neighbours(2, false));
        due("facet 2", x.neighbours(2, true), 2);
        FaceLattice y = of("points 3;facet 0");
        throwsDue("facet 1, though there is point 1", INDEX, () -> y.neighbours(1, true));
        due("point 1", y.neighbours(1, false), 0);
    }

    static void promise43_noFacets() {
        FaceLattice x = of("points 2");
        throwsDue("facet 0", INDEX, () -> x.neighbours(0, true));
        due("point 0", x.neighbours(0, false), 2);
    }

    static void promise44_bothTheSame() {
        for (String text : SMALL) {
            FaceLattice x = of(text);
            for (int p = 0; p < x.pointCount(); p++) {
                due(text + ", point " + p, x.distance(p, p, false), 0);
            }
            for (int f = 0; f < x.facetCount(); f++) {
                due(text + ", facet " + f, x.distance(f, f, true), 0);
            }
        }
    }

    static void promise44_noneIfThereIsNoPath() {
        FaceLattice x = of("points 4;facet 0 1;facet 2 3;facet 0;facet 1;facet 2;facet 3");
        due("points apart", x.distance(0, 2, false), NONE);
        due("the other way", x.distance(3, 1, false), NONE);
        due("facets apart", x.distance(0, 1, true), NONE);
        due("no facets", of("points 3").distance(0, 1, false), NONE);
        due("two equal facets", of("points 2;facet 0;facet 0").distance(0, 1, true), NONE);
    }

    static void promise44_equalFacetsOverAThird() {
        FaceLattice x = of("points 3;facet 0 1;facet 0 1;facet 1 2");
        due("two steps", x.distance(0, 1, true), 2);
        due("its first", x.step(0, 1, true), 2);
    }

    static void promise44_theLongestPaths() {
        FaceLattice x = of("points 8;facet 0 1;facet 1 2;facet 2 3;facet 3 4;facet 4 5;facet 5 6;facet 6 7");
        due("points", x.distance(0, 7, false), 7);
        due("facets", x.distance(6, 0, true), 6);
        due("one step", x.distance(3, 4, false), 1);
        FaceLattice ten = of("points 8;facet 0 1;facet 1 2;facet 2 3;facet 3 4;facet 4 5;facet 5 6;facet 6 7;facet 0"
                + ";facet 7");
        due("of facets that cover no more than a point", ten.distance(7, 8, true), 1);
    }

    static void promise44_onePointOrFacetDoesNotExist() {
        pointMissing((x, p) -> x.distance(p, 0, false));
        pointMissing((x, p) -> x.distance(0, p, false));
        pointMissing((x, p) -> x.distance(p, p, false));
        facetMissing((x, f) -> x.distance(f, 0, true));
        facetMissing((x, f) -> x.distance(0, f, true));
        facetMissing((x, f) -> x.distance(f, f, true));
    }

    static void promise45_bothTheSame() {
        for (String text : SMALL) {
            FaceLattice x = of(text);
            int p = x.pointCount() - 1;
            int f = x.facetCount() - 1;
            throwsDue(text + ", the first point", ELEMENT, () -> x.step(0, 0, false));
            throwsDue(text + ", the last point", ELEMENT, () -> x.step(p, p, false));
            if (f >= 0) {
                throwsDue(text + ", the last facet", ELEMENT, () -> x.step(f, f, true));
            }
        }
    }

    static void promise45_noPath() {
        FaceLattice x = of("points 4;facet 0 1;facet 2 3;facet 0;facet 1;facet 2;facet 3");
        throwsDue("points apart", ELEMENT, () -> x.step(0, 2, false));
        throwsDue("facets apart", ELEMENT, () -> x.step(1, 0, true));
        FaceLattice y = of("points 3");
        throwsDue("no facets", ELEMENT, () -> y.step(2, 0, false));
    }

    static void promise45_whetherTheyExistIsCheckedFirst() {
        pointMissing((x, p) -> x.step(p, p, false));
        facetMissing((x, f) -> x.step(f, f, true));
        pointMissing((x, p) -> x.step(p, 0, false));
        pointMissing((x, p) -> x.step(0, p, false));
        facetMissing((x, f) -> x.step(f, 0, true));
        facetMissing((x, f) -> x.step(0, f, true));
        missing("points 3", 3, (x, p) -> x.step(0, p, false));
    }

    static void promise45_theLowestNeighbour() {
        due("of two", of("cycle 8").step(0, 4, false), 1);
        due("of two, the lower one is behind", of("cycle 8").step(1, 5, false), 0);
        due("of three", of("cube 3").step(7, 0, false), 3);
        due("the other one itself", of("cycle 8").step(0, 7, false), 7);
        due("facets", of("cycle 8").step(7, 3, true), 0);
        due("not a lower one of a longer path", of("cycle 8").step(7, 5, false), 6);
    }

    static void promise46_noFacets() {
        FaceLattice x = new FaceLattice();
        throwsDue("a new object", ELEMENT, () -> x.diameter(true));
        due("its point", x.diameter(false), 0);
        FaceLattice y = of("points 8");
        throwsDue("8 points", ELEMENT, () -> y.diameter(true));
        due("two points", of("points 2").diameter(false), 1);
    }

    static void promise46_onePointOrFacet() {
        due("one point", of("points 1;facet 0;facet 0").diameter(false), 0);
        due("one facet", of("points 8;facet 0").diameter(true), 0);
    }

    static void promise46_twoWithoutAPath() {
        FaceLattice x = of("points 4;facet 0 1;facet 2 3;facet 0;facet 1;facet 2;facet 3");
        throwsDue("points", ELEMENT, () -> x.diameter(false));
        throwsDue("facets", ELEMENT, () -> x.diameter(true));
        FaceLattice y = of("points 2;facet 0;facet 0");
        throwsDue("two equal facets", ELEMENT, () -> y.diameter(true));
        FaceLattice z = of("points 3;facet 0 1;facet 1");
        throwsDue("the last point", ELEMENT, () -> z.diameter(false));
        FaceLattice w = of("points 3;facet 1 2;facet 1");
        throwsDue("the first point", ELEMENT, () -> w.diameter(false));
    }

    static void promise46_theGreatestDistance() {
        FaceLattice x = of("points 8;facet 0 1;facet 1 2;facet 2 3;facet 3 4;facet 4 5;facet 5 6;facet 6 7");
        due("points", x.diameter(false), 7);
        due("facets", x.diameter(true), 6);
        due("all neighbours", of("simplex 8").diameter(false), 1);
        due("all neighbours", of("simplex 8").diameter(true), 1);
        due("not from the first", of("points 4;facet 0 1;facet 0 2;facet 0 3").diameter(false), 2);
    }

    // Promises 47 to 50: types

    static void promise47_oneAnd40320() {
        due("one point", new FaceLattice().automorphisms(), 1);
        due("none but the first", of("points 4;facet 0;facet 0 1;facet 0 1 2").automorphisms(), 1);
        due("none of 8 points", of("points 8;facet 0;facet 0 1;facet 0 1 2;facet 0 1 2 3;facet 0 1 2 3 4"
                + ";facet 0 1 2 3 4 5;facet 0 1 2 3 4 5 6").automorphisms(), 1);
        due("no facets", of("points 8").automorphisms(), 40320);
        due("simplex 8", of("simplex 8").automorphisms(), 40320);
        due("facets of all points", of("points 8" + ";facet 0 1 2 3 4 5 6 7".repeat(10)).automorphisms(), 40320);
        due("one point apart", of("points 8;facet 7").automorphisms(), 5040);
        due("Fano", of(FANO).automorphisms(), 168);
    }

    static void promise47_equalFacets() {
        due("twice and once", of("points 2;facet 0;facet 0;facet 1").automorphisms(), 1);
        due("twice each", of("points 2;facet 0;facet 1;facet 0;facet 1").automorphisms(), 2);
        due("facets that are equal are not told apart", of("points 1;facet 0;facet 0").automorphisms(), 1);
    }

    static void promise48_pointsAtBothEnds() {
        due("the first of all", of("simplex 8").orbit(0), 255);
        due("the last of all", of("simplex 8").orbit(7), 255);
        due("the first alone", of("points 8;facet 0").orbit(0), 1);
        due("the last of the others", of("points 8;facet 0").orbit(7), 254);
        due("the only one", new FaceLattice().orbit(0), 1);
        due("none but itself", of("points 4;facet 0;facet 0 1;facet 0 1 2").orbit(3), 8);
    }

    static void promise48_thePointDoesNotExist() {
        pointMissing((x, p) -> x.orbit(p));
    }

    static void promise49_thereIsNoCopy() {
        FaceLattice x = new FaceLattice();
        throwsDue("a new object", STATE, x::isLike);
        FaceLattice y = of("cube 3");
        throwsDue("just loaded", STATE, y::isLike);
        y.save();
        due("saved", y.isLike(), true);
        load(y, "cube 3");
        throwsDue("the copy is gone", STATE, y::isLike);
    }

    static void promise49_aCopyOfOtherCounts() {
        FaceLattice x = of("cube 2");
        x.save();
        x.addFacet(1);
        due("more facets", x.isLike(), false);
        x.removeFacet(0);
        due("as many, other sets", x.isLike(), false);
        x.undo();
        x.undo();
        x.removeFacet(3);
        due("fewer facets", x.isLike(), false);
        x.undo();
        x.dual();
        due("a square again", x.isLike(), true);
        x.pyramid();
        due("more points", x.isLike(), false);
        x.keepFace(1);
        due("fewer points", x.isLike(), false);
    }

    static void promise49_theCopyDecidesNotTheStateBefore() {
        FaceLattice x = of("cube 2");
        x.save();
        x.dual();
        x.save();
        x.pyramid();
        due("another one", x.isLike(), false);
        x.save();
        due("itself", x.isLike(), true);
        x.undo();
        due("the one before", x.isLike(), false);
    }

    static void promise50_thePointIsCheckedFirst() {
        pointMissing((x, p) -> x.image(p));
        FaceLattice like = of("cube 2");
        like.save();
        FaceLattice unlike = of("cube 2");
        unlike.save();
        unlike.removeFacet(0);
        for (int p : beyond(4)) {
            throwsDue("alike, point " + p, INDEX, () -> like.image(p));
            throwsDue("not alike, point " + p, INDEX, () -> unlike.image(p));
        }
    }

    static void promise50_theCopyIsCheckedSecond() {
        FaceLattice x = new FaceLattice();
        throwsDue("a new object", STATE, () -> x.image(0));
        throwsDue("a new object, no point", INDEX, () -> x.image(1));
        FaceLattice y = of("simplex 8");
        throwsDue("just loaded", STATE, () -> y.image(7));
        y.save();
        load(y, "simplex 8");
        throwsDue("the copy is gone", STATE, () -> y.image(7));
    }

    static void promise50_thereIsNoIsomorphism() {
        FaceLattice x = of("cube 2");
        x.save();
        x.addFacet(1);
        throwsDue("more facets", ELEMENT, () -> x.image(0));
        x.undo();
        x.pyramid();
        throwsDue("more points", ELEMENT, () -> x.image(4));
        x.keepFace(1);
        throwsDue("fewer points", ELEMENT, () -> x.image(0));
        throwsDue("a point of the copy alone", INDEX, () -> x.image(1));
    }

    static void promise50_theFirstIsomorphism() {
        for (String text : new String[] {"points 8", "simplex 8", "cube 3", "cross 3", "cycle 8", FANO}) {
            FaceLattice x = of(text);
            x.save();
            for (int p = 0; p < x.pointCount(); p++) {
                due(text + " onto itself, point " + p, x.image(p), p);
            }
        }
    }

    static void promise50_point0GoesToTheLowestThenPoint1() {
        FaceLattice x = of("points 5;facet 0 1;facet 1 2;facet 2 3");
        x.save();
        become(x, 9, 17, 18);
        imagesDue("the path 3 0 4 1 onto 0 1 2 3", x, 1, 3, 4, 0, 2);
        become(x, 3, 24, 17);
        imagesDue("the path 1 0 4 3 onto 0 1 2 3", x, 1, 0, 4, 3, 2);
        become(x, 20, 20);
        throwsDue("no path", ELEMENT, () -> x.image(0));
    }

    static void promise50_notTheLowestPointIfItLeadsNowhere() {
        FaceLattice x = of("points 7;facet 0 1;facet 1 2;facet 0 2;facet 3 4;facet 4 5;facet 5 6;facet 3 6");
        x.save();
        become(x, 3, 6, 12, 9, 48, 96, 80);
        imagesDue("the ring of four comes first", x, 3, 4, 5, 6, 0, 1, 2);
    }

    private static void become(FaceLattice x, int... facets) {
        for (int f = x.facetCount() - 1; f >= 0; f--) {
            x.removeFacet(f);
        }
        for (int facet : facets) {
            x.addFacet(facet);
        }
    }

    private static void imagesDue(String what, FaceLattice x, int... images) {
        for (int p = 0; p < images.length; p++) {
            due(what + ", point " + p, x.image(p), images[p]);
        }
    }
}
