import java.util.function.Consumer;

/** For each sentence of the promises 1 to 18 that names a boundary case a test of its own. */
public final class ChangeEdgeTest extends Checks {
    public static void main(String[] args) throws IllegalAccessException {
        runAll(ChangeEdgeTest.class, "promise", 1, 18);
    }

    // Promise 1: a new object

    static void promise1_onePointAndNoFacets() {
        FaceLattice x = new FaceLattice();
        due("points", x.pointCount(), 1);
        due("facets", x.facetCount(), 0);
        facesDue("the only face", x, 1);
    }

    static void promise1_anEmptyBuffer() {
        FaceLattice x = new FaceLattice();
        due("length", lengthOf(x), 0);
        due("error", x.errorPosition(), 0);
        throwsDue("one byte of none", ARGUMENT, () -> x.truncate(1));
        throwsDue("load", ARGUMENT, x::load);
    }

    static void promise1_noHistoryAndNoCopy() {
        FaceLattice x = new FaceLattice();
        due("undoCount", x.undoCount(), 0);
        throwsDue("undo", STATE, x::undo);
        throwsDue("restore", STATE, x::restore);
        throwsDue("isLike", STATE, x::isLike);
        throwsDue("image", STATE, () -> x.image(0));
    }

    static void promise1_objectsHaveNothingInCommon() {
        FaceLattice x = new FaceLattice();
        FaceLattice y = new FaceLattice();
        y.addFacet(1);
        y.save();
        y.pyramid();
        type(y, "cube 3");
        due("the other one", allOf(x), allOf(new FaceLattice()));
    }

    static void promise1_usedFor512Calls() {
        FaceLattice x = new FaceLattice();
        x.append(0x63756265, 0x20330000, 0, 0, 0);
        x.load();
        for (int k = 0; k < 500; k++) {
            x.setIncident(k % 8, 0, k % 16 < 8);
        }
        due("call 503", x.undoCount(), 8);
        due("call 504", x.undo(), 7);
        due("call 505", x.facet(0), 7);
        due("call 506", x.faceCount(), 21);
        due("call 507", x.closure(7), 7);
        due("call 508", x.indexOf(7), 14);
        due("call 509", x.automorphisms(), 1);
        due("call 510", x.save(), 8);
        due("call 511", x.addFacet(1), 6);
        due("call 512", x.undo(), 7);
    }

    // Promise 2: append

    static void promise2_theMostSignificantByteFirst() {
        FaceLattice x = new FaceLattice();
        due("points 3", x.append(0x706f696e, 0x74732033, 0, 0, 0), 8);
        due("valid", x.errorPosition(), NONE);
        x.truncate(0);
        x.append(0x6e696f70, 0x33207374, 0, 0, 0);
        due("the other way round", x.errorPosition(), 0);
    }

    static void promise2_theParametersInOrder() {
        FaceLattice x = new FaceLattice();
        due("a byte each", x.append(0x63, 0x75, 0x62, 0x65, 0x32), 5);
        due("cube2", x.errorPosition(), NONE);
        x.truncate(0);
        due("four bytes each", x.append(0x706f696e, 0x74732038, 0x3b666163, 0x65742037, 0x20362035), 20);
        due("points 8;facet 7 6 5", x.load(), 1);
        facetsDue("loaded", x, 128 + 64 + 32);
    }

    static void promise2_bytesWithTheValue0AreSkipped() {
        FaceLattice x = new FaceLattice();
        due("in all places", x.append(0x00630075, 0x62000065, 0x00320000, 0, 0x00000020), 6);
        due("cube2", x.errorPosition(), NONE);
        for (int place = 0; place < 4; place++) {
            FaceLattice y = new FaceLattice();
            due("all but byte " + place, y.append(0x20202020 & ~(255 << 8 * place), 0, 0, 0, 0), 3);
            due("byte " + place, y.append(0x20 << 8 * place, 0, 0, 0, 0), 4);
        }
    }

    static void promise2_onlyBytesWithTheValue0() {
        FaceLattice x = new FaceLattice();
        due("to none", x.append(0, 0, 0, 0, 0), 0);
        type(x, "points 3");
        due("to some", x.append(0, 0, 0, 0, 0), 8);
        due("nothing is changed", x.errorPosition(), NONE);
        due("to 300", filled(300).append(0, 0, 0, 0, 0), 300);
    }

    static void promise2_bytesWithTheHighestBitSet() {
        FaceLattice x = new FaceLattice();
        due("the bit alone", x.append(0x80808080, 0x80000000, 0x00800000, 0x00008000, 0x00000080), 8);
        due("all bits", x.append(-1, -1, -1, -1, -1), 28);
        due("all bits of one", x.append(0xff000000, 0x00ff0000, 0x0000ff00, 0x000000ff, 0), 32);
        due("no word begins so", x.errorPosition(), 0);
        FaceLattice y = typed("points 3");
        y.append(0xa0000000, 0, 0, 0, 0);
        due("no space", y.errorPosition(), 8);
        y.truncate(8);
        y.append(0, 0, 0xbb, 0, 0);
        due("no semicolon", y.errorPosition(), 8);
        y.truncate(7);
        y.append(0xb3, 0, 0, 0, 0);
        due("no digit", y.errorPosition(), 7);
        y.truncate(0);
        y.append(0xf06f696e, 0x74732033, 0, 0, 0);
        due("no letter", y.errorPosition(), 0);
    }

    static void promise2_returnsTheNewLength() {
        FaceLattice x = new FaceLattice();
        int length = 0;
        for (int k = 0; k <= 20; k++) {
            int[] w = new int[5];
            for (int j = 0; j < k; j++) {
                w[j % 5] |= 0x41 << 8 * (j / 5);
            }
            length += k;
            due(k + " more", x.append(w[0], w[1], w[2], w[3], w[4]), length);
        }
    }

    static void promise2_aBufferOf300Bytes() {
        FaceLattice x = new FaceLattice();
        for (int k = 1; k <= 15; k++) {
            due("20 more", x.append(0x20202020, 0x20202020, 0x20202020, 0x20202020, 0x20202020), 20 * k);
        }
        due("300", lengthOf(x), 300);
        due("the text ends too early", x.errorPosition(), 300);
        for (int length = 280; length < 300; length++) {
            int[] w = new int[5];
            for (int j = 0; j < 300 - length; j++) {
                w[j % 5] |= 0x20 << 8 * (j / 5);
            }
            due("just 300", filled(length).append(w[0], w[1], w[2], w[3], w[4]), 300);
        }
    }

    static void promise2_theAppendThatWouldPass300() {
        for (int length = 281; length <= 300; length++) {
            int from = length;
            int[] w = new int[5];
            for (int j = 0; j <= 300 - length; j++) {
                w[j % 5] |= 0x80 << 8 * (j / 5);
            }
            refused("just 301", () -> filled(from), STATE, x -> x.append(w[0], w[1], w[2], w[3], w[4]));
            refused("20 more", () -> filled(from), STATE, x -> x.append(-1, -1, -1, -1, -1));
        }
    }

    static void promise2_eachOfTheTwentyBytesCounts() {
        for (int place = 0; place < 20; place++) {
            int[] w = new int[5];
            w[place / 4] = 1 << 8 * (place % 4);
            refused("byte " + place, () -> filled(300), STATE, x -> x.append(w[0], w[1], w[2], w[3], w[4]));
            due("byte " + place + " of 300", filled(299).append(w[0], w[1], w[2], w[3], w[4]), 300);
        }
    }

    static void promise2_nothingIsAppendedThen() {
        FaceLattice x = filled(299);
        throwsDue("two where one fits", STATE, () -> x.append(0x41000000, 0, 0, 0, 0x41));
        due("length", lengthOf(x), 299);
        due("still valid", x.errorPosition(), NONE);
        due("one where one fits", x.append(0, 0x20, 0, 0, 0), 300);
        due("still valid", x.errorPosition(), NONE);
        throwsDue("one where none fits", STATE, () -> x.append(0, 0x20, 0, 0, 0));
        due("load", x.load(), 1);
        due("room again", x.append(-1, -1, -1, -1, -1), 20);
    }

    // Promise 3: truncate

    static void promise3_aNegativeLength() {
        refused("-1", () -> typed("points 3"), ARGUMENT, x -> x.truncate(-1));
        refused("the least", () -> typed("points 3"), ARGUMENT, x -> x.truncate(LOW));
        refused("-1 of none", FaceLattice::new, ARGUMENT, x -> x.truncate(-1));
        refused("-256", () -> filled(300), ARGUMENT, x -> x.truncate(-256));
    }

    static void promise3_theLength0() {
        FaceLattice x = typed("points 3");
        due("of 8", x.truncate(0), 0);
        due("nothing is left", x.errorPosition(), 0);
        due("of 0", x.truncate(0), 0);
        due("of 300", filled(300).truncate(0), 0);
    }

    static void promise3_thePresentLength() {
        FaceLattice x = typed("points 3");
        due("8 of 8", x.truncate(8), 8);
        due("all is left", x.errorPosition(), NONE);
        due("300 of 300", filled(300).truncate(300), 300);
        due("0 of 0", new FaceLattice().truncate(0), 0);
    }

    static void promise3_oneMoreThanThePresentLength() {
        refused("9 of 8", () -> typed("points 3"), ARGUMENT, x -> x.truncate(9));
        refused("1 of 0", FaceLattice::new, ARGUMENT, x -> x.truncate(1));
        refused("300 of 299", () -> filled(299), ARGUMENT, x -> x.truncate(300));
        refused("301 of 300", () -> filled(300), ARGUMENT, x -> x.truncate(301));
        refused("the greatest", () -> filled(300), ARGUMENT, x -> x.truncate(HIGH));
        FaceLattice y = typed("points 3");
        y.truncate(5);
        throwsDue("what was there before", ARGUMENT, () -> y.truncate(6));
    }

    static void promise3_theFrontIsKept() {
        FaceLattice x = typed("points 3;facet 0 1 2;x");
        due("shorter by 1", x.truncate(21), 21);
        due("ends with a semicolon", x.errorPosition(), 21);
        due("shorter by 2", x.truncate(20), 20);
        due("all three", x.errorPosition(), NONE);
        x.truncate(16);
        x.append(0x20320000, 0, 0, 0, 0);
        due("other bytes in their place", x.load(), 1);
        facetsDue("points 0 and 2", x, 5);
    }

    // Promise 4: errorPosition

    static void promise4_noneIfTheTextIsValid() {
        due("NONE", FaceLattice.NONE, -1);
        due("valid", typed("points 1").errorPosition(), -1);
        due("of 300 bytes", filled(300).errorPosition(), -1);
    }

    static void promise4_theEmptyTextAndTheFirstByte() {
        due("empty", new FaceLattice().errorPosition(), 0);
        due("the first byte", typed("?").errorPosition(), 0);
        due("the last of 300", typed("points 3" + " ".repeat(291) + "?").errorPosition(), 299);
        due("the end of 300", typed("points 3" + " ".repeat(291) + ";").errorPosition(), 300);
    }

    static void promise4_onlyChecks() {
        FaceLattice x = busy("cube 2");
        due("wrong text", x.errorPosition(), 19);
        due("and again", x.errorPosition(), 19);
        x.truncate(19);
        due("it ends too early", x.errorPosition(), 19);
        x.truncate(18);
        due("valid text", x.errorPosition(), NONE);
        due("and again", x.errorPosition(), NONE);
        FaceLattice y = busy("cube 2");
        y.truncate(18);
        due("nothing is changed", allOf(x), allOf(y));
    }

    // Promise 5: load

    static void promise5_replacesPointsAndFacets() {
        FaceLattice x = of("cube 3;facet 0 1 2 3 4 5 6 7");
        due("fewer facets", load(x, "points 2;facet 1"), 1);
        due("fewer points", x.pointCount(), 2);
        facetsDue("nothing is left of the cube", x, 2);
        facesDue("its faces", x, 2, 3);
        due("more facets", load(x, "simplex 8"), 8);
        due("more points", x.pointCount(), 8);
        due("faces", x.faceCount(), 256);
        due("no facets", load(x, "points 1"), 0);
        facesDue("one face", x, 1);
    }

    private static int load(FaceLattice x, String text) {
        type(x, text);
        return x.load();
    }

    static void promise5_returnsTheNumberOfFacets() {
        due("0", typed("points 8").load(), 0);
        due("1", typed("points 8;facet 0").load(), 1);
        due("10", typed("simplex 8;facet 0;facet 0").load(), 10);
    }

    static void promise5_noUndoHistory() {
        FaceLattice x = busy("cube 2");
        x.truncate(18);
        due("facets", x.load(), 1);
        due("undoCount", x.undoCount(), 0);
        throwsDue("undo", STATE, x::undo);
        facetsDue("as loaded", x, 17);
        x.addFacet(3);
        due("one change", x.undo(), 0);
        facetsDue("as loaded", x, 17);
    }

    static void promise5_noSavedCopy() {
        FaceLattice x = busy("cube 2");
        due("a copy", x.isLike(), false);
        x.truncate(18);
        x.load();
        throwsDue("restore", STATE, x::restore);
        throwsDue("isLike", STATE, x::isLike);
        throwsDue("image", STATE, () -> x.image(0));
    }

    static void promise5_theBufferBecomesEmpty() {
        FaceLattice x = of("points 3;facet 2");
        due("length", lengthOf(x), 0);
        due("no text", x.errorPosition(), 0);
        throwsDue("one byte of none", ARGUMENT, () -> x.truncate(1));
        throwsDue("load again", ARGUMENT, x::load);
    }

    static void promise5_aTextThatIsNotValid() {
        for (String text : new String[] {"", " ", "points 9", "points 3;", "points 3;facet", "points 3;facet 3",
            "cube 2;facet 0 0", "points 3?", "points 8" + ";facet 0".repeat(11)}) {
            refused("\"" + text + "\"", () -> {
                FaceLattice x = busy("cycle 4");
                x.truncate(0);
                type(x, text);
                return x;
            }, ARGUMENT, FaceLattice::load);
        }
    }

    static void promise5_theBufferIsKeptThen() {
        FaceLattice x = typed("cube 2;facet 0 1;");
        throwsDue("one semicolon too many", ARGUMENT, x::load);
        due("length", lengthOf(x), 17);
        due("without it", x.truncate(16), 16);
        due("facets", x.load(), 5);
        facetsDue("loaded", x, 5, 10, 3, 12, 3);
    }

    // Promise 6: setIncident

    static void promise6_pointsAndFacetsAtBothEnds() {
        FaceLattice x = of("points 8" + ";facet 3".repeat(10));
        due("the first of the first", x.setIncident(0, 0, true), false);
        due("the last of the first", x.setIncident(7, 0, true), false);
        due("the first of the last", x.setIncident(0, 9, true), false);
        due("the last of the last", x.setIncident(7, 9, true), false);
        facetsDue("in those", x, 137, 8, 8, 8, 8, 8, 8, 8, 8, 137);
        due("out again", x.setIncident(7, 9, false), true);
        facetsDue("in the others", x, 137, 8, 8, 8, 8, 8, 8, 8, 8, 9);
    }

    static void promise6_thePointDoesNotExist() {
        for (String text : new String[] {"cube 2", "cube 3", "points 1;facet 0"}) {
            for (int point : beyond(of(text).pointCount())) {
                refused("in point " + point, text, INDEX, x -> x.setIncident(point, 0, true));
                refused("out point " + point, text, INDEX, x -> x.setIncident(point, 0, false));
            }
        }
    }

    static void promise6_theFacetDoesNotExist() {
        for (String text : new String[] {"cube 2", TEN, "points 3"}) {
            for (int facet : beyond(of(text).facetCount())) {
                refused("in facet " + facet, text, INDEX, x -> x.setIncident(0, facet, true));
                refused("out facet " + facet, text, INDEX, x -> x.setIncident(0, facet, false));
            }
        }
        refused("neither exists", "cube 2", INDEX, x -> x.setIncident(4, 4, true));
        refused("no facets", FaceLattice::new, INDEX, x -> x.setIncident(0, 0, false));
    }

    static void promise6_returnsWhetherItWasInItBefore() {
        FaceLattice x = of("points 3;facet 1");
        due("out, in", x.setIncident(0, 0, true), false);
        due("in, in", x.setIncident(0, 0, true), true);
        due("in, out", x.setIncident(0, 0, false), true);
        due("out, out", x.setIncident(0, 0, false), false);
        due("the other point", x.setIncident(1, 0, true), true);
        due("all are changes", x.undoCount(), 5);
    }

    static void promise6_aFacetWithoutPointsAndWithAll() {
        FaceLattice x = of("points 2;facet 1");
        x.setIncident(1, 0, false);
        facesDue("without points", x, 0, 3);
        x.setIncident(0, 0, true);
        x.setIncident(1, 0, true);
        facesDue("with all", x, 3);
    }

    static void promise6_theLargestObject() {
        largest("setIncident", x -> x.setIncident(7, 9, true), 8, 10);
    }

    /** A change of 8 points and 10 facets. */
    private static void largest(String what, Consumer<FaceLattice> change, int points, int facets) {
        FaceLattice x = of("simplex 8;facet 0 1;facet 0 2");
        change.accept(x);
        due(what + ": points", x.pointCount(), points);
        due(what + ": facets", x.facetCount(), facets);
        due(what + ": a change", x.undo(), 0);
        due(what + ": facets before", x.facetCount(), 10);
    }

    // Promise 7: addFacet

    static void promise7_noPointsAndAllPoints() {
        FaceLattice x = of("points 8");
        due("none", x.addFacet(0), 0);
        due("all", x.addFacet(255), 1);
        due("all again", x.addFacet(255), 2);
        due("the last point", x.addFacet(128), 3);
        facetsDue("added", x, 0, 255, 255, 128);
    }

    static void promise7_somethingThatIsNotAPoint() {
        for (int n = 1; n <= 8; n++) {
            FaceLattice x = of("points " + n);
            for (int bit = n; bit < 32; bit++) {
                int alone = 1 << bit;
                int more = alone | (1 << n) - 1;
                throwsDue(n + " points, bit " + bit, ARGUMENT, () -> x.addFacet(alone));
                throwsDue(n + " points and bit " + bit, ARGUMENT, () -> x.addFacet(more));
            }
            throwsDue(n + " points, all bits", ARGUMENT, () -> x.addFacet(-1));
            throwsDue(n + " points, all bits but one", ARGUMENT, () -> x.addFacet(HIGH));
            facetsDue(n + " points", x);
            due(n + " points, the greatest set", x.addFacet((1 << n) - 1), 0);
        }
        for (int set : new int[] {16, 17, 31, 256, -1, -16, LOW, HIGH}) {
            refused("set " + set, "cube 2", ARGUMENT, x -> x.addFacet(set));
        }
    }

    static void promise7_theSetIsCheckedFirst() {
        for (int set : new int[] {4, 5, -1, LOW, HIGH}) {
            refused("set " + set, TEN, ARGUMENT, x -> x.addFacet(set));
        }
    }

    static void promise7_thereAreTenFacets() {
        refused("an eleventh", TEN, STATE, x -> x.addFacet(1));
        refused("an empty one", TEN, STATE, x -> x.addFacet(0));
        refused("all points", TEN, STATE, x -> x.addFacet(3));
        FaceLattice x = of("simplex 8;facet 0");
        due("the tenth", x.addFacet(7), 9);
        due("ten", x.facetCount(), 10);
        throwsDue("the eleventh", STATE, () -> x.addFacet(7));
        x.removeFacet(0);
        due("the tenth again", x.addFacet(6), 9);
    }

    static void promise7_theLargestObject() {
        FaceLattice x = of("simplex 8;facet 0 1");
        due("the tenth facet", x.addFacet(255), 9);
        due("all faces", x.faceCount(), 256);
        due("the tenth facet", x.facet(9), 255);
    }

    // Promise 8: removeFacet

    static void promise8_facetsAtBothEnds() {
        FaceLattice x = of("points 8;facet 0;facet 1;facet 2;facet 3;facet 4;facet 5;facet 6;facet 7;facet 0 7;facet 1 6");
        due("the last of ten", x.removeFacet(9), 66);
        facetsDue("none moves", x, 1, 2, 4, 8, 16, 32, 64, 128, 129);
        due("the first", x.removeFacet(0), 1);
        facetsDue("all move", x, 2, 4, 8, 16, 32, 64, 128, 129);
        due("the fifth", x.removeFacet(4), 32);
        facetsDue("those behind move", x, 2, 4, 8, 16, 64, 128, 129);
    }

    static void promise8_theOnlyFacet() {
        FaceLattice x = of("points 2;facet 1");
        due("its points", x.removeFacet(0), 2);
        facetsDue("none is left", x);
        facesDue("one face", x, 3);
        throwsDue("none more", INDEX, () -> x.removeFacet(0));
    }

    static void promise8_theFacetDoesNotExist() {
        for (String text : new String[] {"cube 2", TEN, "points 3"}) {
            for (int facet : beyond(of(text).facetCount())) {
                refused("facet " + facet, text, INDEX, x -> x.removeFacet(facet));
            }
        }
    }

    static void promise8_theLargestObject() {
        largest("removeFacet", x -> x.removeFacet(9), 8, 9);
    }

    // Promise 9: dual

    static void promise9_noFacets() {
        refused("none", "points 1", STATE, FaceLattice::dual);
        refused("none", "points 8", STATE, FaceLattice::dual);
        refused("a new object", FaceLattice::new, STATE, FaceLattice::dual);
    }

    static void promise9_moreThan8Facets() {
        refused("nine", "cross 3;facet 0", STATE, FaceLattice::dual);
        refused("ten", "cross 3;facet 0;facet 1", STATE, FaceLattice::dual);
        refused("ten", TEN, STATE, FaceLattice::dual);
    }

    static void promise9_oneFacetAndEight() {
        FaceLattice x = of("points 8;facet 0 7");
        due("two faces", x.dual(), 2);
        due("one point", x.pointCount(), 1);
        facetsDue("eight facets", x, 1, 0, 0, 0, 0, 0, 0, 1);
        due("one face more than the facets' sets", x.dual(), 2);
        due("eight points", x.pointCount(), 8);
        facetsDue("one facet", x, 129);
        FaceLattice y = of("simplex 8");
        due("the largest", y.dual(), 256);
        due("eight points", y.pointCount(), 8);
        facetsDue("eight facets", y, 254, 253, 251, 247, 239, 223, 191, 127);
    }

    static void promise9_equalAndEmptyFacets() {
        FaceLattice x = of("points 2;facet 0;facet 0;facet 0 1");
        x.setIncident(0, 1, false);
        facetsDue("before", x, 1, 0, 3);
        due("faces", x.dual(), 3);
        due("points", x.pointCount(), 3);
        facetsDue("point 1 is in none, point 2 in all", x, 5, 4);
        FaceLattice y = of("points 3;facet 1;facet 1");
        due("faces", y.dual(), 2);
        facetsDue("points alike", y, 0, 3, 0);
    }

    // Promise 10: pyramid

    static void promise10_sevenPointsAndEight() {
        refused("8 points", "points 8", STATE, FaceLattice::pyramid);
        refused("8 points", "simplex 8", STATE, FaceLattice::pyramid);
        FaceLattice x = of("simplex 7");
        due("256 faces", x.pyramid(), 256);
        due("8 points", x.pointCount(), 8);
        due("8 facets", x.facetCount(), 8);
        throwsDue("no more", STATE, x::pyramid);
    }

    static void promise10_nineFacetsAndTen() {
        refused("10 facets", TEN, STATE, FaceLattice::pyramid);
        refused("both", "simplex 8;facet 0;facet 1", STATE, FaceLattice::pyramid);
        FaceLattice x = of("points 7" + ";facet 6".repeat(9));
        due("the largest", x.pyramid(), 4);
        facetsDue("the largest", x, 192, 192, 192, 192, 192, 192, 192, 192, 192, 127);
        due("points", x.pointCount(), 8);
    }

    static void promise10_noFacets() {
        FaceLattice x = new FaceLattice();
        due("faces", x.pyramid(), 2);
        due("points", x.pointCount(), 2);
        facetsDue("the new one", x, 1);
        FaceLattice y = of("points 7");
        due("faces", y.pyramid(), 2);
        facetsDue("all other points", y, 127);
    }

    static void promise10_inAllFacetsButTheNewOne() {
        FaceLattice x = of("points 2;facet 0;facet 1;facet 0 1");
        x.setIncident(0, 0, false);
        due("faces", x.pyramid(), 6);
        facetsDue("the empty one, too", x, 4, 6, 7, 3);
    }

    // Promise 11: stack

    static void promise11_theFacetDoesNotExist() {
        for (String text : new String[] {"cube 2", "points 3", "points 1;facet 0"}) {
            for (int facet : beyond(of(text).facetCount())) {
                refused("facet " + facet, text, INDEX, x -> x.stack(facet));
            }
        }
    }

    static void promise11_theFacetIsCheckedFirst() {
        for (String text : new String[] {"simplex 8", "points 8", TEN, "points 3" + ";facet 0 1".repeat(10)}) {
            for (int facet : beyond(of(text).facetCount())) {
                refused("facet " + facet, text, INDEX, x -> x.stack(facet));
            }
        }
    }

    static void promise11_itsSetCoversNoFace() {
        refused("the only facet", "points 3;facet 1", STATE, x -> x.stack(0));
        refused("all facets equal", "points 3;facet 1 2;facet 1 2", STATE, x -> x.stack(1));
        refused("in all others", "points 3;facet 0 1;facet 1 2;facet 1", STATE, x -> x.stack(2));
        refused("all points", "points 2;facet 0 1", STATE, x -> x.stack(0));
        FaceLattice y = of("points 2;facet 0;facet 1");
        y.setIncident(0, 0, false);
        throwsDue("the empty set", STATE, () -> y.stack(0));
        due("one face is enough", y.stack(1), 2);
        facetsDue("upon a point", y, 0, 4);
    }

    static void promise11_sevenPointsAndEight() {
        for (int f : new int[] {0, 7}) {
            refused("8 points", "cycle 8", STATE, x -> x.stack(f));
        }
        refused("8 points", "points 8;facet 0;facet 1", STATE, x -> x.stack(0));
        FaceLattice y = of("cycle 7");
        due("7 points", y.stack(6), 8);
        due("8 points", y.pointCount(), 8);
        facetsDue("upon the last facet", y, 3, 6, 12, 24, 48, 96, 129, 192);
    }

    static void promise11_tenFacetsAndEleven() {
        FaceLattice x = of("cross 3");
        due("8 - 1 + 3", x.stack(7), 10);
        throwsDue("10 - 1 + 3", STATE, () -> x.stack(9));
        refused("9 - 1 + 3", "cross 3;facet 0", STATE, y -> y.stack(0));
        FaceLattice two = of("points 3" + ";facet 0 1".repeat(7) + ";facet 0;facet 1");
        due("9 - 1 + 2", two.stack(0), 10);
        refused("10 - 1 + 2", "points 3" + ";facet 0 1".repeat(8) + ";facet 0;facet 1", STATE, y -> y.stack(0));
        FaceLattice one = of("points 3" + ";facet 0 1".repeat(9) + ";facet 1 2");
        due("10 - 1 + 1", one.stack(0), 10);
        facetsDue("in its place the last", one, 3, 3, 3, 3, 3, 3, 3, 3, 6, 10);
    }

    static void promise11_anEqualFacetStays() {
        FaceLattice x = of("points 3;facet 0 1;facet 0;facet 0 1;facet 1");
        due("facets", x.stack(2), 5);
        facetsDue("the first of the two", x, 3, 1, 2, 9, 10);
    }

    static void promise11_aFacetOfAllPoints() {
        FaceLattice x = of("points 3;facet 0 1 2;facet 2;facet 0");
        due("facets", x.stack(0), 4);
        facetsDue("upon the last face", x, 4, 1, 9, 12);
    }

    static void promise11_noFacesOfBefore() {
        FaceLattice x = of("simplex 8");
        due("256 faces", x.faceCount(), 256);
        load(x, "points 4;facet 0 1;facet 0");
        due("one side", x.stack(0), 2);
        facetsDue("one side", x, 1, 17);
    }

    static void promise11_inTheOrderOfTheFaces() {
        FaceLattice x = of("points 5;facet 4;facet 3 4;facet 0 1 2 3 4;facet 0;facet 1 2;facet 1");
        due("facets", x.stack(2), 8);
        facetsDue("the lower rank first", x, 16, 24, 1, 6, 2, 33, 38, 56);
    }

    static void promise11_theLargestObject() {
        FaceLattice x = of("points 7" + ";facet 0 1".repeat(9) + ";facet 1 2");
        due("ten facets stay ten", x.stack(9), 10);
        due("eight points", x.pointCount(), 8);
        facetsDue("upon point 1", x, 3, 3, 3, 3, 3, 3, 3, 3, 3, 130);
    }

    // Promise 12: cutOff

    static void promise12_thePointDoesNotExist() {
        for (String text : new String[] {"cube 2", "points 1", "points 8"}) {
            for (int point : beyond(of(text).pointCount())) {
                refused("point " + point, text, INDEX, x -> x.cutOff(point));
            }
        }
    }

    static void promise12_thePointIsCheckedFirst() {
        for (String text : new String[] {TEN, "cube 3", "points 3"}) {
            for (int point : beyond(of(text).pointCount())) {
                refused("point " + point, text, INDEX, x -> x.cutOff(point));
            }
        }
    }

    static void promise12_noNeighbour() {
        refused("the only point", "points 1", STATE, x -> x.cutOff(0));
        refused("in a facet, too", "points 1;facet 0", STATE, x -> x.cutOff(0));
        refused("three without facets", "points 3", STATE, x -> x.cutOff(1));
        refused("in no facet with another one", "points 3;facet 0;facet 1 2", STATE, x -> x.cutOff(0));
        FaceLattice y = of("points 2");
        due("one neighbour is enough", y.cutOff(0), 2);
        facetsDue("the new facet alone", y, 2);
    }

    static void promise12_eightPointsAndNine() {
        FaceLattice x = of("simplex 5");
        due("5 - 1 + 4", x.cutOff(4), 8);
        due("points", x.pointCount(), 8);
        refused("6 - 1 + 5", "simplex 6", STATE, y -> y.cutOff(0));
        refused("8 - 1 + 2", "cycle 8", STATE, y -> y.cutOff(3));
        refused("6 - 1 + 4", "cross 3;facet 0", STATE, y -> y.cutOff(0));
        FaceLattice seven = of("cycle 7");
        due("7 - 1 + 2", seven.cutOff(6), 8);
        FaceLattice one = of("points 8;facet 0 1;facet 1 2");
        due("8 - 1 + 1", one.cutOff(0), 8);
        facetsDue("the new point is the last", one, 129, 3, 128);
    }

    static void promise12_nineFacetsAndTen() {
        refused("10 facets", TEN, STATE, x -> x.cutOff(0));
        refused("10 facets", "points 3" + ";facet 0 1".repeat(10), STATE, x -> x.cutOff(1));
        FaceLattice x = of("points 3" + ";facet 0 1".repeat(9));
        due("9 facets", x.cutOff(1), 3);
        facetsDue("now 10", x, 5, 5, 5, 5, 5, 5, 5, 5, 5, 4);
    }

    static void promise12_newPointsInRisingOrder() {
        FaceLattice x = of("cycle 5");
        due("neighbours 0 and 3", x.cutOff(4), 6);
        facetsDue("the last point", x, 3, 6, 12, 40, 17, 48);
        FaceLattice y = of("cycle 5");
        due("neighbours 1 and 4", y.cutOff(0), 6);
        facetsDue("the first point", y, 17, 3, 6, 12, 40, 48);
    }

    static void promise12_aFacetWithThePointButNoNeighbour() {
        FaceLattice x = of("points 3;facet 0 1;facet 0;facet 1;facet 2");
        due("points", x.cutOff(0), 3);
        facetsDue("loses it", x, 5, 0, 1, 2, 4);
    }

    static void promise12_theLargestObject() {
        FaceLattice x = of("points 8" + ";facet 0 1".repeat(9));
        due("eight points stay eight", x.cutOff(0), 8);
        facetsDue("ten facets", x, 129, 129, 129, 129, 129, 129, 129, 129, 129, 128);
    }

    // Promise 13: keepFace

    static void promise13_theFaceDoesNotExist() {
        for (String text : new String[] {"cube 2", "points 1", "simplex 8", "points 8"}) {
            for (int face : beyond(of(text).faceCount())) {
                refused("face " + face, text, INDEX, x -> x.keepFace(face));
            }
        }
    }

    static void promise13_itHasNoPoints() {
        refused("the first face", "cube 3", STATE, x -> x.keepFace(0));
        refused("the first of two", "points 2;facet 0;facet 1", STATE, x -> x.keepFace(0));
        refused("the empty face", "simplex 8", STATE, x -> x.keepFace(0));
    }

    static void promise13_theFirstFaceIfItHasPoints() {
        FaceLattice x = of("points 4;facet 1 3;facet 1 2 3");
        due("no facets", x.keepFace(0), 0);
        due("points", x.pointCount(), 2);
        facesDue("its only face", x, 3);
        FaceLattice one = new FaceLattice();
        due("the only face of a new object", one.keepFace(0), 0);
        due("the point", one.pointCount(), 1);
        due("a change", one.undoCount(), 1);
    }

    static void promise13_theLastFace() {
        FaceLattice x = of("simplex 8");
        due("facets", x.keepFace(255), 8);
        facetsDue("in the order of the faces", x, 127, 191, 223, 239, 247, 251, 253, 254);
        due("points", x.pointCount(), 8);
        FaceLattice y = of("points 3;facet 0;facet 0 1;facet 0 1;facet 0 1 2");
        due("only what it covers", y.keepFace(last(y)), 1);
        facetsDue("only what it covers", y, 3);
    }

    static void promise13_itCoversTenFaces() {
        String pairs = "points 5;facet 0 1;facet 0 2;facet 0 3;facet 0 4;facet 1 2;facet 1 3;facet 1 4;facet 2 3"
                + ";facet 2 4;facet 3 4";
        FaceLattice x = of(pairs);
        due("the most", x.covers(last(x), false), 10);
        due("ten facets", x.keepFace(last(x)), 10);
        facetsDue("ten facets", x, 3, 5, 6, 9, 10, 12, 17, 18, 20, 24);
    }

    static void promise13_aFaceOfOnePoint() {
        FaceLattice x = of("cube 3");
        due("its number", x.indexOf(128), 8);
        due("one facet", x.keepFace(8), 1);
        due("one point", x.pointCount(), 1);
        facetsDue("without points", x, 0);
    }

    static void promise13_theLargestObject() {
        FaceLattice x = of("cycle 8;facet 0 2;facet 1 3");
        due("ten facets", x.keepFace(last(x)), 10);
        due("eight points", x.pointCount(), 8);
        facetsDue("in the order of the faces", x, 3, 5, 6, 10, 12, 24, 48, 96, 129, 192);
        largest("keepFace", y -> y.keepFace(last(y)), 8, 8);
    }

    // Promise 14: figure

    static void promise14_thePointDoesNotExist() {
        for (String text : new String[] {"cube 2", "points 1", "simplex 8"}) {
            for (int point : beyond(of(text).pointCount())) {
                refused("point " + point, text, INDEX, x -> x.figure(point));
            }
        }
    }

    static void promise14_noFacesCoverItsClosure() {
        refused("the only point", FaceLattice::new, STATE, x -> x.figure(0));
        refused("no facets", "points 8", STATE, x -> x.figure(7));
        refused("in no facet", "points 3;facet 0;facet 1", STATE, x -> x.figure(2));
        refused("in a facet of all points", "points 2;facet 0 1", STATE, x -> x.figure(0));
        FaceLattice y = of("points 2;facet 0");
        due("one face is enough", y.figure(0), 1);
        facetsDue("the closure itself becomes empty", y, 0);
    }

    static void promise14_sevenFacesCoverIt() {
        for (int p : new int[] {0, 7}) {
            FaceLattice x = of("simplex 8");
            due("the most", x.figure(p), 7);
            due("seven facets", x.facetCount(), 7);
            due("faces", x.faceCount(), 128);
        }
        FaceLattice y = of("points 8;facet 0;facet 0 1;facet 0 2;facet 0 3;facet 0 4;facet 0 5;facet 0 6;facet 0 7");
        due("a star", y.figure(0), 7);
        facetsDue("the first is empty", y, 0, 1, 2, 4, 8, 16, 32, 64);
    }

    static void promise14_onlyFacetsWithThePoint() {
        FaceLattice x = of("points 3;facet 0 1;facet 1;facet 0 2;facet 0 1");
        due("points", x.figure(0), 2);
        facetsDue("equal ones, too", x, 1, 2, 1);
    }

    static void promise14_aClosureOfMorePoints() {
        FaceLattice x = of("points 4;facet 0 1;facet 0 1 2;facet 0 1 3");
        due("of point 1", x.figure(1), 2);
        facetsDue("covers of both", x, 0, 1, 2);
    }

    static void promise14_inTheOrderOfTheFaces() {
        FaceLattice x = of("points 6;facet 0 3 4;facet 0 4;facet 0 1 2;facet 0 4 5;facet 0 2");
        due("points", x.figure(0), 2);
        facetsDue("the lower set first", x, 2, 2, 1, 2, 1);
    }

    static void promise14_theLargestObject() {
        FaceLattice x = of("points 8;facet 0 7;facet 1 7;facet 2 7;facet 3 7;facet 4 7;facet 5 7;facet 6 7"
                + ";facet 0 1 7;facet 2 3 7;facet 4 5 7");
        due("seven points", x.figure(7), 7);
        facetsDue("ten facets", x, 1, 2, 4, 8, 16, 32, 64, 3, 12, 48);
        largest("figure", y -> y.figure(7), 7, 7);
    }

    // Promise 15: undo

    static void promise15_nothingToUndo() {
        refused("a new object", FaceLattice::new, STATE, FaceLattice::undo);
        refused("just loaded", () -> of("cube 3"), STATE, FaceLattice::undo);
        refused("all undone", () -> {
            FaceLattice x = of("cube 3");
            x.removeFacet(0);
            x.undo();
            return x;
        }, STATE, FaceLattice::undo);
        refused("just restored", () -> {
            FaceLattice x = busy("cube 2");
            x.restore();
            return x;
        }, STATE, FaceLattice::undo);
        refused("only refused changes", () -> {
            FaceLattice x = of("points 8");
            throwsDue("pyramid", STATE, x::pyramid);
            return x;
        }, STATE, FaceLattice::undo);
    }

    static void promise15_theEighthUndoAndTheOneAfterIt() {
        FaceLattice x = of("points 8");
        for (int k = 0; k < 9; k++) {
            x.addFacet(k);
        }
        for (int k = 7; k >= 0; k--) {
            due("still to undo", x.undo(), k);
            due("facets", x.facetCount(), k + 1);
        }
        throwsDue("the ninth", STATE, x::undo);
        facetsDue("the first change stays", x, 0);
    }

    static void promise15_theLatestThatWasNotUndoneYet() {
        FaceLattice x = of("points 8");
        x.addFacet(1);
        x.addFacet(2);
        x.addFacet(4);
        due("the third", x.undo(), 2);
        due("the second", x.undo(), 1);
        x.addFacet(8);
        due("the fourth", x.undo(), 1);
        facetsDue("the first stays", x, 1);
        due("the first", x.undo(), 0);
        facetsDue("none stays", x);
    }

    static void promise15_tenChangesWithUndosBetween() {
        FaceLattice x = of("points 8;facet 7");
        for (int k = 0; k < 6; k++) {
            x.setIncident(k, 0, true);
        }
        x.undo();
        x.undo();
        for (int k = 2; k < 6; k++) {
            x.setIncident(k, 0, false);
        }
        due("six and four less two", x.undoCount(), 8);
        x.setIncident(7, 0, false);
        due("no more than eight", x.undoCount(), 8);
        for (int k = 0; k < 8; k++) {
            x.undo();
        }
        facetsDue("the oldest is lost", x, 129);
    }

    static void promise15_undoesPointsFacetsAndFaces() {
        FaceLattice x = of("cube 2");
        x.pyramid();
        x.dual();
        x.removeFacet(0);
        due("undo", x.undo(), 2);
        due("undo", x.undo(), 1);
        due("undo", x.undo(), 0);
        due("points", x.pointCount(), 4);
        facetsDue("facets", x, 5, 10, 3, 12);
        facesDue("faces", x, 0, 1, 2, 4, 8, 3, 5, 10, 12, 15);
    }

    // Promise 16: undoCount

    static void promise16_noneToEight() {
        FaceLattice x = of("points 3;facet 0");
        due("none", x.undoCount(), 0);
        for (int k = 1; k <= 300; k++) {
            x.setIncident(1, 0, (k & 1) == 1);
            if (k < 12 || k > 290) {
                due(k + " changes", x.undoCount(), Math.min(k, 8));
            }
        }
        for (int k = 7; k >= 0; k--) {
            x.undo();
            due(k + " left", x.undoCount(), k);
        }
    }

    static void promise16_refusedCallsDoNotCount() {
        FaceLattice x = of("points 8");
        x.addFacet(1);
        throwsDue("pyramid", STATE, x::pyramid);
        throwsDue("setIncident", INDEX, () -> x.setIncident(8, 0, true));
        throwsDue("stack", STATE, () -> x.stack(0));
        due("one", x.undoCount(), 1);
    }

    // Promise 17: save

    static void promise17_returnsTheNumberOfPoints() {
        for (int n = 1; n <= 8; n++) {
            due("points", of("points " + n).save(), n);
        }
    }

    static void promise17_inPlaceOfAnEarlierOne() {
        FaceLattice x = of("cube 2");
        x.save();
        x.pyramid();
        due("the later", x.save(), 5);
        x.dual();
        x.removeFacet(0);
        due("restored", x.restore(), 5);
        facetsDue("the later", x, 21, 26, 19, 28, 15);
        x.keepFace(1);
        due("a smaller one", x.save(), 1);
        due("restored", x.restore(), 1);
        facetsDue("the smaller", x, 0);
    }

    static void promise17_theCopyStaysAsItIs() {
        FaceLattice x = of("points 2;facet 0");
        x.save();
        x.setIncident(1, 0, true);
        due("set", x.isLike(), false);
        x.undo();
        due("undone", x.isLike(), true);
        x.addFacet(2);
        due("added", x.isLike(), false);
        x.removeFacet(1);
        due("removed", x.isLike(), true);
    }

    static void promise17_theFewestAndTheMost() {
        FaceLattice x = new FaceLattice();
        due("one point, no facet", x.save(), 1);
        x.addFacet(1);
        due("restored", x.restore(), 1);
        facetsDue("no facet", x);
        FaceLattice y = of("simplex 8;facet 0;facet 7");
        due("eight points, ten facets", y.save(), 8);
        y.removeFacet(9);
        y.figure(0);
        due("restored", y.restore(), 8);
        facetsDue("ten facets", y, 254, 253, 251, 247, 239, 223, 191, 127, 1, 128);
    }

    // Promise 18: restore

    static void promise18_thereIsNoCopy() {
        refused("a new object", FaceLattice::new, STATE, FaceLattice::restore);
        refused("just loaded", () -> of("cube 3"), STATE, FaceLattice::restore);
        refused("changed", () -> {
            FaceLattice x = of("cube 3");
            x.removeFacet(0);
            return x;
        }, STATE, FaceLattice::restore);
        refused("the copy is gone by a load", () -> {
            FaceLattice x = of("cube 3");
            x.save();
            load(x, "cube 2");
            return x;
        }, STATE, FaceLattice::restore);
    }

    static void promise18_aCopyOfOtherCounts() {
        FaceLattice x = of("cube 3");
        x.save();
        x.figure(0);
        x.removeFacet(0);
        due("more points", x.restore(), 8);
        facetsDue("more facets", x, 85, 170, 51, 204, 15, 240);
        due("faces", x.faceCount(), 28);
        x.keepFace(1);
        x.save();
        x.pyramid();
        x.pyramid();
        x.addFacet(5);
        due("fewer points", x.restore(), 1);
        facetsDue("fewer facets", x, 0);
        facesDue("fewer faces", x, 0, 1);
    }

    static void promise18_theCopyIsKept() {
        FaceLattice x = of("cycle 4");
        x.save();
        for (int k = 0; k < 3; k++) {
            x.removeFacet(k);
            due("restored", x.restore(), 4);
            facetsDue("restored", x, 3, 6, 12, 9);
            due("still a copy", x.isLike(), true);
        }
        x.setIncident(2, 0, true);
        due("apart from the object", x.isLike(), false);
    }

    static void promise18_clearsTheHistory() {
        FaceLattice x = busy("cube 2");
        due("before", x.undoCount(), 8);
        due("points", x.restore(), 4);
        due("after", x.undoCount(), 0);
        throwsDue("undo", STATE, x::undo);
        x.addFacet(1);
        due("one change", x.undo(), 0);
        due("facets", x.facetCount(), 5);
        throwsDue("no more", STATE, x::undo);
    }

    static void promise18_theBufferIsKept() {
        FaceLattice x = busy("cube 2");
        x.restore();
        due("length", lengthOf(x), 20);
        due("error", x.errorPosition(), 19);
        x.truncate(18);
        due("load", x.load(), 1);
        facetsDue("loaded", x, 17);
    }
}
