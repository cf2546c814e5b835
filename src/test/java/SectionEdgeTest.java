import java.util.List;
import java.util.function.Consumer;
import java.util.function.Supplier;

/** For each sentence of the document's sections 1 to 8 that names a boundary case a test of its own. */
public final class SectionEdgeTest extends Checks {
    private static final String[] SHAPES = {"points", "simplex", "cycle", "cube", "cross"};
    private static final int[] LEAST = {1, 2, 3, 1, 1};
    private static final int[] MOST = {8, 8, 8, 3, 3};

    public static void main(String[] args) throws IllegalAccessException {
        runAll(SectionEdgeTest.class, "section", 1, 8);
    }

    // Section 1: terms

    static void section1_oneToEightPoints() {
        due("the fewest", of("points 1").pointCount(), 1);
        due("the most", of("points 8").pointCount(), 8);
        FaceLattice x = new FaceLattice();
        for (int points = 2; points <= 8; points++) {
            x.pyramid();
            due("one more", x.pointCount(), points);
        }
        throwsDue("a ninth", STATE, x::pyramid);
        due("still eight", x.pointCount(), 8);
    }

    static void section1_noneToTenFacets() {
        due("the fewest", of("points 8").facetCount(), 0);
        due("the most", of(TEN).facetCount(), 10);
        FaceLattice x = new FaceLattice();
        for (int facet = 0; facet < 10; facet++) {
            due("the next number", x.addFacet(facet & 1), facet);
            due("one more", x.facetCount(), facet + 1);
        }
        throwsDue("an eleventh", STATE, () -> x.addFacet(1));
        due("still ten", x.facetCount(), 10);
        for (int left = 9; left >= 0; left--) {
            x.removeFacet(0);
            due("one less", x.facetCount(), left);
        }
    }

    static void section1_numberedFrom0() {
        FaceLattice x = of("points 3;facet 0;facet 1;facet 2");
        for (int k = 0; k < 3; k++) {
            due("facet " + k, x.facet(k), 1 << k);
            due("facets of point " + k, x.facetsOf(k), 1 << k);
        }
    }

    static void section1_facetsCanBeEqualSets() {
        FaceLattice x = of("points 3;facet 0 1;facet 2;facet 1 0");
        facetsDue("from a text", x, 3, 4, 3);
        due("added again", x.addFacet(4), 3);
        facetsDue("added", x, 3, 4, 3, 4);
        due("in both", x.facetsOf(2), 10);
        facesDue("each set once", x, 0, 3, 4, 7);
        due("one of them goes", x.removeFacet(0), 3);
        facetsDue("the other one stays", x, 4, 3, 4);
        due("one of them is changed", x.setIncident(0, 0, true), false);
        facetsDue("the other one is not", x, 5, 3, 4);
    }

    static void section1_atFirstOnePointAndNoFacet() {
        FaceLattice x = new FaceLattice();
        due("points", x.pointCount(), 1);
        due("facets", x.facetCount(), 0);
        due("facets of the point", x.facetsOf(0), 0);
        facesDue("the point alone", x, 1);
    }

    // Section 2: faces

    static void section2_closureIsWhatIsInEachFacetWithTheSet() {
        for (String text : SMALL) {
            FaceLattice x = of(text);
            int facets = x.facetCount();
            for (int set : sets(Math.min(x.pointCount(), 6))) {
                int want = (1 << x.pointCount()) - 1;
                for (int f = 0; f < facets && facets <= 4; f++) {
                    want &= contains(x.facet(f), set) ? x.facet(f) : -1;
                }
                if (facets <= 4) {
                    due(text + ", set " + set, x.closure(set), want);
                }
            }
        }
    }

    static void section2_noFacetContainsTheSet() {
        FaceLattice x = of("points 4;facet 0 1;facet 1 2");
        due("in two facets, but not in one", x.closure(5), 15);
        due("in no facet", x.closure(8), 15);
        due("all points", x.closure(15), 15);
        due("no facets", of("points 8").closure(0), 255);
        due("no facets, one point", new FaceLattice().closure(0), 1);
    }

    static void section2_aFaceEqualsItsClosure() {
        for (String text : LARGE) {
            FaceLattice x = of(text);
            FaceLattice y = of(text);
            int faces = 0;
            for (int set : sets(x.pointCount())) {
                boolean closed = x.closure(set) == set;
                faces += closed ? 1 : 0;
                due(text + ", set " + set, y.indexOf(set) != NONE, closed);
            }
            due(text + ": faces", x.faceCount(), faces);
        }
    }

    static void section2_aFaceDoesNotCoverItself() {
        for (String text : new String[] {"simplex 3", UNEVEN, "points 3;facet 0;facet 0"}) {
            FaceLattice x = of(text);
            for (int c = 0; c <= last(x); c++) {
                for (int way = 0; way < 2; way++) {
                    for (int k = 0; k < x.covers(c, way == 1); k++) {
                        due("another one", x.cover(c, way == 1, k) != c, true);
                    }
                }
            }
        }
    }

    static void section2_noThirdFaceIsBetween() {
        FaceLattice x = of("points 3;facet 0;facet 0 1");
        facesDue("a chain", x, 1, 3, 7);
        due("the first is covered by one", x.covers(0, true), 1);
        due("by the next", x.cover(0, true, 0), 1);
        due("the last covers one", x.covers(2, false), 1);
        due("the one before", x.cover(2, false, 0), 1);
    }

    static void section2_theLeastFaceIsTheFirst() {
        due("no points", of("cube 3").face(0), 0);
        due("the points in all facets", of("points 4;facet 0 1 2;facet 0 1 3").face(0), 3);
        due("of higher number than others as a set", of("points 3;facet 2;facet 0 2;facet 1 2").face(0), 4);
        for (String text : SMALL) {
            FaceLattice x = of(text);
            due(text, x.face(0), x.closure(0));
        }
    }

    static void section2_theSetOfAllPointsIsTheLastFace() {
        for (String text : SMALL) {
            FaceLattice x = of(text);
            due(text, x.face(last(x)), (1 << x.pointCount()) - 1);
        }
        due("256 faces", of("simplex 8").face(255), 255);
    }

    static void section2_theLeastFaceAndTheLastOneAreTheSame() {
        for (String text : new String[] {"points 1", "points 8", "points 1;facet 0", "points 2;facet 1 0",
            "points 8" + ";facet 0 1 2 3 4 5 6 7".repeat(10)}) {
            FaceLattice x = of(text);
            due(text + ": faces", x.faceCount(), 1);
            due(text + ": the face", x.face(0), (1 << x.pointCount()) - 1);
            due(text + ": height", x.height(), 0);
            due(text + ": flags", x.flags(), 1);
            due(text + ": covers none", x.covers(0, false), 0);
            due(text + ": covered by none", x.covers(0, true), 0);
        }
    }

    // Section 3: ranks

    static void section3_theRankOfTheFirstFaceIs0() {
        for (String text : SMALL) {
            due(text, of(text).rank(0), 0);
        }
        for (String text : LARGE) {
            due(text, of(text).rank(0), 0);
        }
    }

    static void section3_oneMoreThanTheGreatestRankBelow() {
        FaceLattice x = of("points 5;facet 4;facet 0;facet 0 1;facet 0 1 2");
        facesDue("one short way, one long", x, 0, 1, 16, 3, 7, 31);
        int[] ranks = {0, 1, 1, 2, 3, 4};
        for (int c = 0; c < 6; c++) {
            due("rank of face " + c, x.rank(c), ranks[c]);
        }
        due("height", x.height(), 4);
    }

    static void section3_eachRankIsTheGreatestBelowAndOne() {
        for (String text : SMALL) {
            FaceLattice x = of(text);
            for (int c = 1; c <= last(x); c++) {
                int greatest = -1;
                for (int k = 0; k < x.covers(c, false); k++) {
                    greatest = Math.max(greatest, x.rank(x.cover(c, false, k)));
                }
                due(text + ", face " + c, x.rank(c), greatest + 1);
            }
        }
    }

    static void section3_numberedByRankThenBySet() {
        facesDue("a lower set of a higher rank", of("points 4;facet 0 1;facet 0;facet 2 3;facet 3"),
                0, 1, 8, 3, 12, 15);
        facesDue("the highest bit", of("points 8;facet 7;facet 0;facet 6"), 0, 1, 64, 128, 255);
        facesDue("the highest point counts most", of("points 3;facet 2;facet 0 1"), 0, 3, 4, 7);
        for (String text : LARGE) {
            FaceLattice x = of(text);
            FaceLattice y = of(text);
            for (int c = 1; c <= last(x); c++) {
                boolean higher = y.rank(c) > y.rank(c - 1);
                due(text + ", face " + c, higher ? 1 : x.face(c) > x.face(c - 1) ? 1 : 0, 1);
                if (c > 200) {
                    break;
                }
            }
        }
    }

    static void section3_ranksOfTheFacesBeforeAreGone() {
        FaceLattice x = of("simplex 8");
        x.addFacet(0);
        due("height", x.height(), 8);
        for (int f = 8; f > 1; f--) {
            x.removeFacet(f);
        }
        facesDue("two facets", x, 252, 253, 254, 255);
        due("the first", x.rank(0), 0);
        due("the second", x.rank(1), 1);
        due("the last", x.height(), 2);
        due("none of higher rank", x.ofRank(2), 1);
        x.undo();
        due("one facet more", x.height(), 3);
        x.save();
        x.keepFace(1);
        due("a face that covers the first", x.height(), 1);
        x.restore();
        due("restored", x.height(), 3);
        type(x, "points 2;facet 0");
        x.load();
        due("loaded", x.height(), 1);
        due("the last", x.rank(1), 1);
        throwsDue("rank 2", ARGUMENT, () -> x.ofRank(2));
    }

    // Section 4: chains and Moebius numbers

    static void section4_oneChainFromAFaceToItself() {
        for (String text : SMALL) {
            FaceLattice x = of(text);
            for (int c = 0; c <= last(x); c++) {
                due(text + ", face " + c, x.chains(c, c), 1);
            }
        }
        due("of 256 the last", of("simplex 8").chains(255, 255), 1);
    }

    static void section4_eachStepOfAChainIsACover() {
        for (String text : SMALL) {
            FaceLattice x = of(text);
            int last = last(x);
            for (int c = 0; c < last; c++) {
                int sum = 0;
                for (int k = 0; k < x.covers(c, true); k++) {
                    sum += x.chains(x.cover(c, true, k), last);
                }
                due(text + ", face " + c, x.chains(c, last), sum);
            }
        }
        due("no step is left out", of("points 3;facet 0;facet 0 1").flags(), 1);
    }

    static void section4_theMoebiusNumberOfAFaceAndItselfIs1() {
        for (String text : SMALL) {
            FaceLattice x = of(text);
            for (int c = 0; c <= last(x); c++) {
                due(text + ", face " + c, x.mobius(c, c), 1);
            }
        }
        due("of 256 the last", of("simplex 8").mobius(255, 255), 1);
    }

    static void section4_minusTheSumOverAllFacesButTheUpper() {
        for (String text : new String[] {"simplex 4", "cycle 8", UNEVEN, TWO_RINGS, "points 3;facet 0;facet 0 1",
            "points 5;facet 0;facet 1;facet 2;facet 3;facet 4", "points 4;facet 0 1;facet 0 2;facet 0 3;facet 1 2"}) {
            FaceLattice x = of(text);
            int[] faces = new int[x.faceCount()];
            for (int c = 0; c < faces.length; c++) {
                faces[c] = x.face(c);
            }
            FaceLattice y = of(text);
            for (int a = 0; a < faces.length; a++) {
                for (int b = a + 1; b < faces.length && contains(faces[b], faces[a]); b++) {
                    int sum = 0;
                    for (int c = 0; c < b; c++) {
                        boolean between = contains(faces[c], faces[a]) && contains(faces[b], faces[c]);
                        sum += between ? x.mobius(a, c) : 0;
                    }
                    due(text + ", faces " + a + " and " + b, y.mobius(a, b), -sum);
                }
            }
        }
    }

    static void section4_moebiusNumbersBelowMinus1AndAbove1() {
        FaceLattice x = of("points 8;facet 0;facet 1;facet 2;facet 3;facet 4;facet 5;facet 6;facet 7");
        due("eight between", x.mobius(0, last(x)), 7);
        FaceLattice y = of("points 5;facet 0 1;facet 0 2;facet 0 3;facet 0 4;facet 1 2;facet 1 3;facet 1 4;facet 2 3"
                + ";facet 2 4;facet 3 4");
        due("all pairs of five", y.mobius(0, last(y)), -6);
        FaceLattice z = of("points 3;facet 0;facet 0 1");
        due("a chain of three", z.mobius(0, 2), 0);
    }

    // Section 5: neighbours

    static void section5_nothingIsItsOwnNeighbour() {
        for (String text : SMALL) {
            FaceLattice x = of(text);
            for (int p = 0; p < x.pointCount(); p++) {
                due(text + ", point " + p, x.neighbours(p, false) >> p & 1, 0);
            }
            for (int f = 0; f < x.facetCount(); f++) {
                due(text + ", facet " + f, x.neighbours(f, true) >> f & 1, 0);
            }
        }
        due("the only point", new FaceLattice().neighbours(0, false), 0);
    }

    static void section5_theClosureOfBothHasNoOtherPoint() {
        FaceLattice x = of("points 4;facet 0 1;facet 1 2 3");
        due("two alone", x.neighbours(0, false), 2);
        due("a third one with them", x.neighbours(2, false), 0);
        due("in no facet together", x.neighbours(3, false), 0);
        due("closed by two facets", of("points 4;facet 0 1 2;facet 0 1 3").neighbours(1, false), 1);
    }

    static void section5_twoPointsWithoutFacets() {
        due("two", of("points 2").neighbours(1, false), 1);
        due("three", of("points 3").neighbours(1, false), 0);
    }

    static void section5_pointsOfTheSameClosureAreNeighbours() {
        FaceLattice x = of("points 3;facet 0 2;facet 0 2;facet 1");
        due("the closure of each is that of both", x.closure(1), 5);
        due("neighbours", x.neighbours(0, false), 4);
        due("the other way", x.neighbours(2, false), 1);
    }

    static void section5_equalFacetsAreNoNeighbours() {
        FaceLattice x = of("points 3;facet 0 1;facet 0 1;facet 1 2");
        due("but each has the third", x.neighbours(0, true), 4);
        due("and so the other one", x.neighbours(1, true), 4);
        due("the third has both", x.neighbours(2, true), 3);
        due("two empty ones", of("points 2;facet 0;facet 0").neighbours(1, true), 0);
    }

    static void section5_aFacetInAnotherOneIsNoNeighbour() {
        FaceLattice x = of("points 3;facet 0;facet 0 1;facet 0 1 2;facet 1 2");
        due("the inner", x.neighbours(0, true), 0);
        due("the middle", x.neighbours(1, true), 8);
        due("all points", x.neighbours(2, true), 0);
    }

    static void section5_theIntersectionMayBeEmpty() {
        due("both points", of("points 2;facet 0;facet 1").neighbours(0, true), 2);
        due("both larger", of("points 4;facet 0 1;facet 2 3").neighbours(1, true), 1);
    }

    static void section5_eachMustCoverTheIntersection() {
        FaceLattice x = of("points 4;facet 0 1;facet 2 3;facet 0");
        due("the first does not", x.neighbours(0, true), 0);
        due("the second does", x.neighbours(1, true), 4);
        due("the third does", x.neighbours(2, true), 2);
        due("opposite sides of a cube", of("cube 3").neighbours(0, true), 60);
    }

    // Section 6: isomorphisms

    static void section6_eachSetAsOftenAsItIsThere() {
        FaceLattice x = of("points 2;facet 0;facet 0;facet 1");
        due("twice and once", x.automorphisms(), 1);
        x.save();
        x.setIncident(0, 1, false);
        x.setIncident(1, 1, true);
        due("once and twice", x.isLike(), true);
        due("so they change places", x.image(0), 1);
        x.setIncident(1, 2, false);
        x.setIncident(0, 2, true);
        due("twice and once in another order", x.image(0), 0);
        x.setIncident(1, 0, true);
        due("another set", x.isLike(), false);
    }

    static void section6_asOftenThoughTheSetsAreTheSame() {
        FaceLattice x = of("points 4;facet 0 1;facet 0 1;facet 2 3;facet 0 2;facet 1 3");
        x.save();
        x.removeFacet(0);
        x.addFacet(5);
        due("the doubled side goes to another side", x.isLike(), true);
        due("image of 1", x.image(1), 2);
        x.setIncident(1, 0, false);
        x.setIncident(2, 0, true);
        due("three times and once missing", x.isLike(), false);
    }

    static void section6_theOrderOfTheFacetsDoesNotMatter() {
        FaceLattice x = of("points 3;facet 0;facet 1;facet 0 2");
        x.save();
        x.removeFacet(0);
        x.addFacet(1);
        facetsDue("moved", x, 2, 5, 1);
        due("alike", x.isLike(), true);
        for (int p = 0; p < 3; p++) {
            due("image of " + p, x.image(p), p);
        }
    }

    static void section6_anotherNumberOfPoints() {
        FaceLattice x = new FaceLattice();
        x.addFacet(1);
        x.save();
        x.pyramid();
        x.removeFacet(1);
        due("one more, in the facet", x.isLike(), false);
        x.restore();
        x.addFacet(0);
        x.dual();
        x.removeFacet(0);
        x.addFacet(1);
        facetsDue("the point 1 is in no facet", x, 1);
        due("one more, in no facet", x.isLike(), false);
        x.save();
        x.keepFace(0);
        x.addFacet(1);
        due("points", x.pointCount(), 1);
        due("one less", x.isLike(), false);
    }

    static void section6_anotherNumberOfFacets() {
        FaceLattice x = of("cycle 4");
        x.save();
        x.addFacet(0);
        due("an empty one more", x.isLike(), false);
        x.undo();
        x.addFacet(3);
        due("an equal one more", x.isLike(), false);
        x.undo();
        x.removeFacet(3);
        due("one less", x.isLike(), false);
        x.undo();
        due("as many", x.isLike(), true);
    }

    static void section6_likeInAllCountsButNotAlike() {
        FaceLattice x = of("cycle 6");
        x.save();
        FaceLattice rings = of(TWO_RINGS);
        for (int f = 0; f < 6; f++) {
            for (int p = 0; p < 6; p++) {
                x.setIncident(p, f, (rings.facet(f) >> p & 1) == 1);
            }
        }
        due("two rings of three", x.isLike(), false);
        x.save();
        due("they are like themselves", x.isLike(), true);
    }

    private static void become(FaceLattice x, int... facets) {
        for (int f = x.facetCount() - 1; f >= 0; f--) {
            x.removeFacet(f);
        }
        for (int facet : facets) {
            x.addFacet(facet);
        }
    }

    static void section6_noFacetsOrNoPointsInThem() {
        FaceLattice x = of("points 3");
        x.save();
        due("no facets", x.isLike(), true);
        x.addFacet(0);
        due("one empty facet", x.isLike(), false);
        x.save();
        due("one empty facet each", x.isLike(), true);
        due("all six", x.automorphisms(), 6);
    }

    static void section6_eachPointMustFit() {
        String apexLast = "points 5;facet 0 1 4;facet 2 3 4;facet 0 2;facet 1 3";
        FaceLattice last = of(apexLast);
        due("the sides of a square in two kinds", last.automorphisms(), 4);
        due("the sides with the last point", last.orbit(0), 15);
        last.save();
        become(last, 3, 12, 21, 26);
        due("the kinds exchanged", last.isLike(), true);
        due("so 1 and 2 change places", last.image(1), 2);
        String apexFirst = "points 5;facet 0 1 2;facet 0 3 4;facet 1 3;facet 2 4";
        FaceLattice first = of(apexFirst);
        due("the first point stays", first.orbit(0), 1);
        due("the sides of a square in two kinds", first.automorphisms(), 4);
        first.save();
        become(first, 6, 24, 11, 21);
        due("the kinds exchanged", first.isLike(), true);
        due("so 2 and 3 change places", first.image(2), 3);
    }

    static void section6_eachPointMustFitWhereNothingElseTells() {
        FaceLattice last = of("points 5;facet 0 1 4;facet 2 3 4;facet 0 2;facet 1 3;facet 0 1;facet 2 3");
        last.save();
        become(last, 3, 12, 21, 26, 3, 12);
        due("a square of edges, or two double ones", last.isLike(), false);
        FaceLattice first = of("points 5;facet 0 1 2;facet 0 3 4;facet 1 3;facet 2 4;facet 1 2;facet 3 4");
        first.save();
        become(first, 6, 24, 11, 21, 6, 24);
        due("a square of edges, or two double ones", first.isLike(), false);
    }

    // Section 7: setup text

    static void section7_atLeastOneStatement() {
        errorDue("", 0);
        errorDue(" ", 1);
        errorDue(" ".repeat(300), 300);
        errorDue(";", 0);
        errorDue(" ; points 3", 1);
    }

    static void section7_statementsAreSeparatedBySemicolons() {
        errorDue("points 3;facet 0;facet 1", NONE);
        errorDue("points 3 facet 0", 9);
        errorDue("points 3;facet 0 facet 1", 17);
        errorDue("points 3;;facet 0", 9);
        errorDue("points 3;facet 0;;facet 1", 17);
        errorDue("points 3,facet 0", 8);
        errorDue("points 3;", 9);
        errorDue("points 3;facet 0;", 17);
    }

    static void section7_wordsAreMaximalRunsOfLetters() {
        errorDue("pointsfacet 3", 0);
        errorDue("point 3", 0);
        errorDue("pointss 3", 0);
        errorDue("p oints 3", 0);
        errorDue("points 3;facetfacet 0", 9);
        errorDue("points 3;face t 0", 9);
        errorDue("points 3;facets 0", 9);
        errorDue("points3;facet0", NONE);
        errorDue("points3facet0", 7);
    }

    static void section7_wordsMustBeTheSameInEachLetter() {
        for (String shape : SHAPES) {
            for (int k = 0; k < shape.length(); k++) {
                errorDue(shape.substring(0, k) + "z" + shape.substring(k + 1) + " 3", 0);
                errorDue(shape.substring(0, k) + shape.substring(k + 1) + " 3", 0);
            }
            errorDue(shape + "s 3", 0);
            errorDue(shape.substring(0, 1) + " 3", 0);
        }
        for (int k = 0; k < 5; k++) {
            errorDue("points 3;" + "facet".substring(0, k) + "z" + "facet".substring(k + 1) + " 0", 9);
        }
    }

    static void section7_lettersAreAToZ() {
        for (String text : new String[] {"Points 3", "POINTS 3", "`points 3", "{points 3", "\u00e9points 3"}) {
            errorDue(text, 0);
        }
        for (String text : new String[] {"points` 3", "points{ 3", "points@ 3", "points[ 3", "points\u00f0 3"}) {
            errorDue(text, 6);
        }
        for (String text : new String[] {"pointsA 3", "pointsZ 3", "pointsX 3", "points_ 3"}) {
            errorDue(text, 6);
        }
        errorDue("points 3;Facet 0", 9);
        errorDue("points 3;facet\u00e1 0", 14);
    }

    static void section7_numbersOfFourDigits() {
        errorDue("points 0003", NONE);
        errorDue("cube 0003", NONE);
        errorDue("points 3;facet 0000 0001 0002", NONE);
        errorDue("points 1000", 7);
        errorDue("points 9999", 7);
        errorDue("points 3;facet 9999", 15);
        FaceLattice x = of("points 0008;facet 0007 007 ".substring(0, 22));
        due("their value", x.facet(0), 128);
    }

    static void section7_numbersOfMoreThanFourDigits() {
        errorDue("points 00003", 7);
        errorDue("points 30000", 7);
        errorDue("cross 00001", 6);
        errorDue("points 3;facet 00000", 15);
        errorDue("points 3;facet 0 00001", 17);
        errorDue("points 4294967299", 7);
        errorDue("points 18446744073709551619", 7);
        errorDue("points " + "0".repeat(292) + "3", 7);
    }

    static void section7_numbersAreMaximalRunsOfDigits() {
        errorDue("points 8;facet 01", NONE);
        due("01 is the point 1", of("points 8;facet 01").facet(0), 2);
        errorDue("points 8;facet 12", 15);
        errorDue("points 1 2", 9);
        errorDue("points 12", 7);
        errorDue("points 3;facet 0 1", NONE);
        errorDue("points 3;facet 0/1", 16);
        errorDue("points 3;facet 0:1", 16);
    }

    static void section7_singleOtherBytesFitNowhere() {
        for (int sign = 1; sign < 256; sign++) {
            char c = (char) sign;
            boolean letter = sign >= 'a' && sign <= 'z';
            boolean digit = sign >= '0' && sign <= '9';
            errorDue("points 3" + c, c == ' ' ? NONE : c == ';' ? 9 : digit ? 7 : 8);
            errorDue(c + "points 3", c == ' ' ? NONE : 0);
            errorDue("points" + c + "3", c == ' ' || c == '0' ? NONE : letter ? 0 : 6);
            errorDue("points 3;facet 2" + c + "1", c == ' ' ? NONE : c == ';' ? 17 : digit ? 15 : 16);
        }
    }

    static void section7_bytesWithTheHighestBitAreNoLettersDigitsOrSpaces() {
        errorDue("points 3\u00a0", 8);
        errorDue("points 3\u00bbfacet 0", 8);
        errorDue("points \u00b3", 7);
        errorDue("\u00f0oints 3", 0);
        errorDue("points 3;facet 0 \u00b1", 17);
    }

    static void section7_onlyTheByte32IsASpace() {
        for (char sign : new char[] {1, '\t', '\n', '\r', 31, 33, 160}) {
            errorDue("points" + sign + "3", 6);
            errorDue("points 3" + sign, 8);
            errorDue(sign + "points 3", 0);
        }
    }

    static void section7_spacesBeforeAndAfterEveryToken() {
        String[] tokens = {"cube", "2", ";", "facet", "0", "3", ";", "facet", "1"};
        for (int gap = 0; gap <= tokens.length; gap++) {
            for (int wide = 0; wide <= 12; wide += 3) {
                StringBuilder text = new StringBuilder();
                for (int k = 0; k < tokens.length; k++) {
                    text.append(gap == k ? " ".repeat(wide) : "").append(k == 5 ? " " : "").append(tokens[k]);
                }
                text.append(gap == tokens.length ? " ".repeat(wide) : "");
                FaceLattice x = typed(text.toString());
                due("\"" + text + "\"", x.errorPosition(), NONE);
                due("its facets", x.load(), 6);
                facetsDue("its facets", x, 5, 10, 3, 12, 9, 2);
            }
        }
    }

    static void section7_spacesAtTheBeginningAndAtTheEnd() {
        errorDue(" points 3", NONE);
        errorDue("points 3 ", NONE);
        errorDue(" ".repeat(292) + "points 3", NONE);
        errorDue("points 3" + " ".repeat(292), NONE);
        errorDue(" ".repeat(146) + "points 3" + " ".repeat(146), NONE);
        errorDue("points 3;facet 0" + " ".repeat(284), NONE);
    }

    static void section7_noSpacesInTokens() {
        errorDue("cub e 2", 0);
        errorDue("points 0 3", 7);
        errorDue("points 3 0", 9);
        errorDue("points 3;fac et 0", 9);
    }

    static void section7_rangesOfTheShapesAtBothEnds() {
        for (int s = 0; s < SHAPES.length; s++) {
            for (int n = 0; n <= 40; n++) {
                boolean fits = n >= LEAST[s] && n <= MOST[s];
                errorDue(SHAPES[s] + " " + n, fits ? NONE : SHAPES[s].length() + 1);
            }
            for (int n : new int[] {64, 100, 255, 256, 257, 259, 1000, 1024, 4099, 9999}) {
                errorDue(SHAPES[s] + " " + n, SHAPES[s].length() + 1);
            }
        }
    }

    static void section7_pointsHaveNoFacets() {
        for (int n = 1; n <= 8; n++) {
            FaceLattice x = of("points " + n);
            due("points " + n, x.pointCount(), n);
            facetsDue("points " + n, x);
        }
    }

    static void section7_simplexAtBothEnds() {
        facetsDue("simplex 2", of("simplex 2"), 2, 1);
        facetsDue("simplex 3", of("simplex 3"), 6, 5, 3);
        facetsDue("simplex 8", of("simplex 8"), 254, 253, 251, 247, 239, 223, 191, 127);
        due("points of simplex 2", of("simplex 2").pointCount(), 2);
        due("points of simplex 8", of("simplex 8").pointCount(), 8);
    }

    static void section7_cycleAtBothEnds() {
        facetsDue("cycle 3", of("cycle 3"), 3, 6, 5);
        facetsDue("cycle 7", of("cycle 7"), 3, 6, 12, 24, 48, 96, 65);
        facetsDue("cycle 8", of("cycle 8"), 3, 6, 12, 24, 48, 96, 192, 129);
        due("points of cycle 3", of("cycle 3").pointCount(), 3);
        due("points of cycle 8", of("cycle 8").pointCount(), 8);
    }

    static void section7_cubeAtBothEnds() {
        facetsDue("cube 1", of("cube 1"), 1, 2);
        facetsDue("cube 2", of("cube 2"), 5, 10, 3, 12);
        facetsDue("cube 3", of("cube 3"), 85, 170, 51, 204, 15, 240);
        due("points of cube 1", of("cube 1").pointCount(), 2);
        due("points of cube 2", of("cube 2").pointCount(), 4);
        due("points of cube 3", of("cube 3").pointCount(), 8);
    }

    static void section7_crossAtBothEnds() {
        facetsDue("cross 1", of("cross 1"), 1, 2);
        facetsDue("cross 2", of("cross 2"), 5, 6, 9, 10);
        facetsDue("cross 3", of("cross 3"), 21, 22, 25, 26, 37, 38, 41, 42);
        due("points of cross 1", of("cross 1").pointCount(), 2);
        due("points of cross 2", of("cross 2").pointCount(), 4);
        due("points of cross 3", of("cross 3").pointCount(), 6);
    }

    static void section7_aFirstStatementDoesNotComeAgain() {
        for (String first : SHAPES) {
            for (String again : SHAPES) {
                errorDue(first + " 3;" + again + " 3", first.length() + 3);
                errorDue(first + " 3;facet 0; " + again + " 3", first.length() + 12);
                errorDue(first + " 3;" + again, first.length() + 3);
            }
        }
    }

    static void section7_facetIsNoFirstStatement() {
        errorDue("facet 0", 0);
        errorDue("  facet 0;points 3", 2);
        errorDue("3", 0);
        errorDue("3 points", 0);
    }

    static void section7_aFacetHasOnePointOrMore() {
        errorDue("points 3;facet", 14);
        errorDue("points 3;facet;facet 0", 14);
        errorDue("points 3;facet ;", 15);
        errorDue("points 3;facet facet 0", 15);
        errorDue("points 3;facet 1", NONE);
        errorDue("points 8;facet 7 6 5 4 3 2 1 0", NONE);
        facetsDue("all points", of("points 8;facet 7 6 5 4 3 2 1 0"), 255);
        facetsDue("one point", of("points 8;facet 7"), 128);
        errorDue("points 8;facet 7 6 5 4 3 2 1 0 0", 31);
        errorDue("points 8;facet 7 6 5 4 3 2 1 0 8", 31);
        errorDue("points 8;facet 7 6 5 4 3 2 1 0 x", 31);
        errorDue("points 8;facet 7 6 5 4 3 2 1 0;", 31);
    }

    static void section7_aPointThatIsInTheFacetAlready() {
        errorDue("points 1;facet 0 0", 17);
        errorDue("points 3;facet 1 0 1", 19);
        errorDue("points 3;facet 01 1", 18);
        errorDue("points 3;facet 1 0001", 17);
        errorDue("points 3;facet 1;facet 1", NONE);
        for (int p = 0; p < 8; p++) {
            errorDue("points 8;facet 0 1 2 3 4 5 6 7 " + p, 31);
            errorDue("cube 3;facet " + p + " " + p, 15);
        }
    }

    static void section7_aPointOutOfRange() {
        String[] shapes = {"points 1", "points 2", "points 7", "points 8", "simplex 2", "cycle 3", "cycle 8", "cube 1",
            "cube 2", "cube 3", "cross 1", "cross 2", "cross 3"};
        int[] points = {1, 2, 7, 8, 2, 3, 8, 2, 4, 8, 2, 4, 6};
        for (int k = 0; k < shapes.length; k++) {
            String text = shapes[k] + ";facet ";
            errorDue(text + (points[k] - 1), NONE);
            errorDue(text + points[k], text.length());
            errorDue(text + "0 " + points[k], text.length() + 2);
            errorDue(text + "32", text.length());
            errorDue(text + "256", text.length());
        }
        errorDue("points 3;facet -1", 15);
    }

    static void section7_theTenthFacetAndTheEleventh() {
        String[] shapes = {"points 8", "simplex 8", "cycle 8", "cube 3", "cross 3", "simplex 2", "cube 1"};
        int[] facets = {0, 8, 8, 6, 8, 2, 2};
        for (int k = 0; k < shapes.length; k++) {
            String ten = shapes[k] + ";facet 0".repeat(10 - facets[k]);
            errorDue(ten, NONE);
            due(ten, of(ten).facetCount(), 10);
            errorDue(ten + ";facet 0", ten.length() + 1);
            errorDue(ten + ";facet", ten.length() + 1);
            errorDue(ten + " ;  facet 9", ten.length() + 4);
            errorDue(ten + ";facet 0;facet 0", ten.length() + 1);
            errorDue(ten + ";", ten.length() + 1);
            errorDue(ten + "; ", ten.length() + 2);
        }
    }

    static void section7_theErrorPositionIsTheFirstBadToken() {
        errorDue("points 9;points 9;x", 7);
        errorDue("points 3;facet 3;facet 0 0", 15);
        errorDue("points    9", 10);
        errorDue("points 3    x", 12);
        errorDue("points 3;facet 0    0", 20);
        errorDue("    x", 4);
    }

    static void section7_theTextEndsTooEarly() {
        String text = "  cube 2 ; facet 0 1";
        int[] due = {0, 1, 2, 2, 2, 2, 6, 7, NONE, NONE, 10, 11, 11, 11, 11, 11, 16, 17, NONE, NONE, NONE};
        for (int length = 0; length <= text.length(); length++) {
            errorDue(text.substring(0, length), due[length]);
        }
        errorDue("points" + " ".repeat(294), 300);
        errorDue("points 3;" + " ".repeat(291), 300);
        errorDue("points 3;facet" + " ".repeat(286), 300);
    }

    static void section7_aTextOf300Bytes() {
        String ten = "points 8" + ";facet 0 1 2 3 4 5 6 7".repeat(10);
        String full = ten + " ".repeat(300 - ten.length());
        FaceLattice x = typed(full);
        due("length", lengthOf(x), 300);
        due("valid", x.errorPosition(), NONE);
        due("facets", x.load(), 10);
        due("the tenth", x.facet(9), 255);
        errorDue(full.substring(0, 299) + ";", 300);
        errorDue(full.substring(0, 299) + "x", 299);
    }

    // Section 8: history

    static void section8_eachMethodOfTheSectionIsAChange() {
        FaceLattice x = of("cycle 4");
        x.setIncident(0, 1, true);
        due("setIncident", x.undoCount(), 1);
        x.addFacet(1);
        due("addFacet", x.undoCount(), 2);
        x.removeFacet(0);
        due("removeFacet", x.undoCount(), 3);
        x.dual();
        due("dual", x.undoCount(), 4);
        x.pyramid();
        due("pyramid", x.undoCount(), 5);
        x.stack(4);
        due("stack", x.undoCount(), 6);
        x.figure(0);
        due("figure", x.undoCount(), 7);
        x.keepFace(last(x));
        due("keepFace", x.undoCount(), 8);
        FaceLattice y = of("cycle 3");
        y.cutOff(1);
        due("cutOff", y.undoCount(), 1);
    }

    static void section8_eachChangeCanBeUndone() {
        for (Consumer<FaceLattice> change : changes()) {
            FaceLattice x = of("simplex 4");
            String before = stateOf(x) + facesOf(x, 20);
            change.accept(x);
            due("undone", x.undo(), 0);
            due("as before", stateOf(x) + facesOf(x, 20), before);
        }
    }

    private static Iterable<Consumer<FaceLattice>> changes() {
        return List.of(x -> x.setIncident(0, 0, true), x -> x.addFacet(9), x -> x.removeFacet(1),
                x -> x.dual(), x -> x.pyramid(), x -> x.stack(2), x -> x.cutOff(3), x -> x.keepFace(11),
                x -> x.figure(1));
    }

    static void section8_changesWithoutEffect() {
        FaceLattice x = of("points 1;facet 0");
        x.setIncident(0, 0, true);
        due("setIncident", x.undoCount(), 1);
        x.dual();
        facetsDue("the same", x, 1);
        due("dual", x.undoCount(), 2);
        FaceLattice y = of("cube 1");
        y.keepFace(last(y));
        facetsDue("the same", y, 1, 2);
        due("keepFace", y.undoCount(), 1);
        due("undone", y.undo(), 0);
        facetsDue("the same again", y, 1, 2);
        throwsDue("no more", STATE, y::undo);
        FaceLattice z = of("points 2;facet 0");
        z.addFacet(2);
        for (int k = 0; k < 8; k++) {
            z.setIncident(0, 1, false);
        }
        for (int k = 7; k >= 0; k--) {
            due("eight without effect", z.undo(), k);
            facetsDue("stay as they are", z, 1, 2);
        }
        throwsDue("they have pushed out the ninth", STATE, z::undo);
    }

    static void section8_theLatest8AndTheNinth() {
        for (int made = 8; made <= 20; made++) {
            FaceLattice x = of("points 8;facet 7");
            String[] before = new String[made];
            for (int k = 0; k < made; k++) {
                before[k] = facetsOf(x);
                x.setIncident(k % 8, 0, k / 8 % 2 == 0);
            }
            due("undoCount", x.undoCount(), 8);
            for (int k = 7; k >= 0; k--) {
                due("undo", x.undo(), k);
                due(made + " made, " + k + " left", facetsOf(x), before[made - 8 + k]);
            }
            throwsDue("the ninth of " + made, STATE, x::undo);
            due("nothing left", x.undoCount(), 0);
            due("nothing undone", facetsOf(x), before[made - 8]);
        }
    }

    static void section8_sevenChangesAndTheEighth() {
        FaceLattice x = of("points 3");
        for (int k = 1; k <= 8; k++) {
            x.addFacet(k % 8);
            due(k + " made", x.undoCount(), k);
        }
        x.addFacet(1);
        due("9 made", x.undoCount(), 8);
    }

    static void section8_undoneOneByOne() {
        FaceLattice x = of("points 8");
        for (int k = 0; k < 8; k++) {
            x.addFacet(1 << k);
        }
        for (int k = 7; k >= 0; k--) {
            x.undo();
            due("facets", x.facetCount(), k);
            due("the last facet", k == 0 ? 0 : x.facet(k - 1), k == 0 ? 0 : 1 << k - 1);
        }
    }

    static void section8_anUndoIsNoChange() {
        FaceLattice x = of("points 2");
        x.addFacet(1);
        x.addFacet(2);
        x.undo();
        due("one left", x.undoCount(), 1);
        x.addFacet(3);
        due("two again", x.undoCount(), 2);
        x.undo();
        facetsDue("the second is not met again", x, 1);
        x.undo();
        facetsDue("the start", x);
    }

    static void section8_questionsChangeNothing() {
        for (String text : new String[] {"cube 2", "points 3", TEN, UNEVEN}) {
            for (Consumer<FaceLattice> question : questions()) {
                asked(text, () -> busy(text), question);
                asked(text, () -> quiet(text), question);
            }
            asked(text, () -> busy(text), FaceLattice::isLike);
        }
    }

    private static void asked(String text, Supplier<FaceLattice> maker, Consumer<FaceLattice> question) {
        FaceLattice x = maker.get();
        question.accept(x);
        due(text, allOf(x), allOf(maker.get()));
    }

    private static List<Consumer<FaceLattice>> questions() {
        return List.of(x -> x.append(0, 0, 0, 0, 0), x -> x.truncate(lengthOf(x)), x -> x.errorPosition(),
                x -> x.undoCount(), x -> x.pointCount(), x -> x.facetCount(), x -> x.facetsOf(0), x -> x.closure(1),
                x -> x.faceCount(), x -> x.face(0), x -> x.indexOf(1), x -> x.rank(0), x -> x.height(),
                x -> x.ofRank(0), x -> x.covers(0, true), x -> x.covers(0, false), x -> x.join(0, last(x)),
                x -> x.meet(0, last(x)), x -> x.between(0, last(x)), x -> x.chains(0, last(x)),
                x -> x.mobius(0, last(x)), x -> x.isGraded(), x -> x.alternating(), x -> x.isEulerian(),
                x -> x.isSimplicial(), x -> x.isSimple(), x -> x.flags(), x -> x.neighbours(0, false),
                x -> x.distance(0, 1, false), x -> x.automorphisms(), x -> x.orbit(0));
    }

    static void section8_questionsAboutFacetsAndPathsChangeNothing() {
        for (String text : new String[] {"cube 2", "cross 3", UNEVEN}) {
            List<Consumer<FaceLattice>> more = List.of(x -> x.facet(0), x -> x.neighbours(0, true),
                    x -> x.distance(0, 2, true), x -> x.cover(0, true, 0), x -> x.cover(last(x), false, 0));
            for (Consumer<FaceLattice> question : more) {
                asked(text, () -> busy(text), question);
                asked(text, () -> quiet(text), question);
            }
        }
        for (boolean dual : new boolean[] {false, true}) {
            asked("step", () -> busy("cube 3"), x -> x.step(0, 5, dual));
            asked("step", () -> quiet("cube 3"), x -> x.step(0, 5, dual));
            asked("diameter", () -> busy("cube 3"), x -> x.diameter(dual));
            asked("diameter", () -> quiet("cube 3"), x -> x.diameter(dual));
        }
        asked("isLike", () -> copied("cycle 5"), x -> x.isLike());
        asked("image", () -> copied("cycle 5"), x -> x.image(4));
    }

    /** Like its copy, with a short history before and after the copy. */
    private static FaceLattice copied(String text) {
        FaceLattice x = quiet(text);
        x.save();
        x.setIncident(1, 1, true);
        return x;
    }

    static void section8_saveIsNoChange() {
        FaceLattice x = of("cycle 5");
        x.addFacet(3);
        type(x, "cube 2");
        x.save();
        due("the history goes on", x.undoCount(), 1);
        due("the buffer is kept", x.errorPosition(), NONE);
        due("undone", x.undo(), 0);
        facetsDue("as before", x, 3, 6, 12, 24, 17);
        due("the copy is not undone", x.restore(), 5);
        due("its facets", x.facetCount(), 6);
    }

    static void section8_inputsAreNoChanges() {
        FaceLattice x = quiet("cube 2");
        x.truncate(6);
        type(x, ";facet 0");
        due("valid", x.errorPosition(), NONE);
        due("two changes", x.undoCount(), 2);
        x.save();
        x.restore();
        due("none", x.undoCount(), 0);
        type(x, " 1");
        due("still none", x.undoCount(), 0);
        due("the buffer is kept", x.load(), 5);
    }

    static void section8_inputsChangeTheBufferAlone() {
        List<Consumer<FaceLattice>> inputs = List.of(x -> x.append(-1, 0, 1, 2, 3), x -> x.truncate(3),
                x -> x.errorPosition(), x -> throwsDue("load", ARGUMENT, x::load),
                x -> throwsDue("truncate", ARGUMENT, () -> x.truncate(-1)));
        for (Consumer<FaceLattice> input : inputs) {
            for (String text : new String[] {"cube 2", "points 3", TEN}) {
                FaceLattice x = busy(text);
                input.accept(x);
                due(text, restOf(x), restOf(busy(text)));
                FaceLattice y = quiet(text);
                input.accept(y);
                due(text, restOf(y), restOf(quiet(text)));
            }
        }
    }

    static void section8_inputsAndChangesThatThrowChangeNothing() {
        refused("append", () -> filled(300), STATE, x -> x.append(0, 0, 0, 0, 1));
        refused("append", () -> nearlyFull(busy("cube 2")), STATE, x -> x.append(-1, -1, -1, -1, -1));
        refused("append", () -> nearlyFull(quiet("cube 2")), STATE, x -> x.append(-1, -1, -1, -1, -1));
        refused("truncate", "cube 2", ARGUMENT, x -> x.truncate(21));
        refused("load", "cube 2", ARGUMENT, x -> x.load());
        refused("setIncident", "cube 2", INDEX, x -> x.setIncident(4, 0, true));
        refused("setIncident", "cube 2", INDEX, x -> x.setIncident(0, 4, true));
        refused("addFacet", "cube 2", ARGUMENT, x -> x.addFacet(17));
        refused("addFacet", TEN, STATE, x -> x.addFacet(1));
        refused("removeFacet", "cube 2", INDEX, x -> x.removeFacet(4));
        refused("dual", "points 3", STATE, x -> x.dual());
        refused("pyramid", "cycle 8", STATE, x -> x.pyramid());
        refused("stack", "cycle 8", STATE, x -> x.stack(7));
        refused("cutOff", "cube 3", STATE, x -> x.cutOff(7));
        refused("keepFace", "cube 3", STATE, x -> x.keepFace(0));
        refused("figure", "points 8", STATE, x -> x.figure(7));
    }

    private static FaceLattice nearlyFull(FaceLattice x) {
        for (int k = 0; k < 13; k++) {
            x.append(0x20202020, 0x20202020, 0x20202020, 0x20202020, 0x20202020);
        }
        x.append(0x20202020, 0x20202020, 0x20202020, 0x20202020, 0);
        return x;
    }

    static void section8_historyCallsThatThrowChangeNothing() {
        refused("undo", () -> typed("points 3;facet 1"), STATE, x -> x.undo());
        refused("undo", () -> {
            FaceLattice x = of("cube 2");
            saveOther(x);
            return x;
        }, STATE, x -> x.undo());
        refused("restore", () -> typed("points 3;facet 1"), STATE, x -> x.restore());
        refused("restore", () -> quiet("cube 2"), STATE, x -> x.restore());
    }

    static void section8_questionsThatThrowChangeNothing() {
        refused("facet", "cube 3", INDEX, x -> x.facet(6));
        refused("facetsOf", "cube 3", INDEX, x -> x.facetsOf(8));
        refused("closure", "cube 3", ARGUMENT, x -> x.closure(256));
        refused("face", "cube 3", INDEX, x -> x.face(28));
        refused("rank", "cube 3", INDEX, x -> x.rank(28));
        refused("ofRank", "cube 3", ARGUMENT, x -> x.ofRank(5));
        refused("covers", "cube 3", INDEX, x -> x.covers(28, true));
        refused("cover", "cube 3", INDEX, x -> x.cover(28, true, 0));
        refused("cover", "cube 3", INDEX, x -> x.cover(0, true, 8));
        refused("join", "cube 3", INDEX, x -> x.join(0, 28));
        refused("meet", "cube 3", INDEX, x -> x.meet(0, 28));
        refused("between", "cube 3", INDEX, x -> x.between(0, 28));
        refused("chains", "cube 3", INDEX, x -> x.chains(0, 28));
        refused("mobius", "cube 3", INDEX, x -> x.mobius(0, 28));
        refused("neighbours", "cube 3", INDEX, x -> x.neighbours(8, false));
        refused("distance", "cube 3", INDEX, x -> x.distance(0, 6, true));
        refused("step", "cube 3", INDEX, x -> x.step(0, 6, true));
        refused("step", "cube 3", ELEMENT, x -> x.step(3, 3, true));
        refused("step", "points 3", ELEMENT, x -> x.step(0, 1, false));
        refused("diameter", TEN, ELEMENT, x -> x.diameter(true));
        refused("diameter", "points 3", ELEMENT, x -> x.diameter(false));
        refused("diameter", "points 3", ELEMENT, x -> x.diameter(true));
        refused("orbit", "cube 3", INDEX, x -> x.orbit(8));
        refused("isLike", () -> typed("points 3;facet 1"), STATE, x -> x.isLike());
        refused("isLike", () -> quiet("cube 3"), STATE, x -> x.isLike());
        refused("image", "cube 3", INDEX, x -> x.image(8));
        refused("image", () -> typed("points 3;facet 1"), STATE, x -> x.image(0));
        refused("image", () -> quiet("cube 3"), STATE, x -> x.image(3));
        refused("image", () -> busy("cube 3"), ELEMENT, x -> x.image(3));
        refused("image", () -> {
            FaceLattice x = quiet("cube 3");
            x.save();
            x.addFacet(1);
            return x;
        }, ELEMENT, x -> x.image(3));
    }
}
