/** For each promise of the document: ordinary inputs, the edges that it names, and wrong inputs. */
public final class PromiseTest extends Checks {
    public static void main(String[] args) {
        newObject();
        append();
        truncate();
        errorPosition();
        load();
        shapes();
        setIncident();
        addFacet();
        removeFacet();
        dual();
        pyramid();
        stack();
        cutOff();
        keepFace();
        figure();
        undo();
        save();
        counts();
        facets();
        closure();
        faces();
        ranks();
        covers();
        joinAndMeet();
        chains();
        mobius();
        kinds();
        neighbours();
        paths();
        automorphisms();
        likeness();
        end();
    }

    // Tools

    /** A call that must throw just this, and change nothing. */
    private static void refused(String what, FaceLattice x, Class<? extends RuntimeException> want, Runnable call) {
        String before = seen(x);
        throwsDue(what, want, call);
        due(what + " changes nothing", seen(x), before);
    }

    /** What can be seen of an object without changing it. */
    private static String seen(FaceLattice x) {
        return stateOf(x) + facesOf(x, 20) + ", buffer " + lengthOf(x) + " error " + x.errorPosition() + copyOf(x);
    }

    // 1 to 5

    private static void newObject() {
        test = "promise 1";
        FaceLattice x = new FaceLattice();
        due("points", x.pointCount(), 1);
        due("facets", x.facetCount(), 0);
        due("buffer", lengthOf(x), 0);
        due("undoCount", x.undoCount(), 0);
        facesDue("new", x, 1);
        due("NONE", FaceLattice.NONE, -1);
        refused("restore", x, STATE, x::restore);
        refused("undo", x, STATE, x::undo);
        refused("load", x, ARGUMENT, x::load);
    }

    private static void append() {
        test = "promise 2";
        FaceLattice x = new FaceLattice();
        due("20 bytes", x.append(0x706f696e, 0x74732038, 0x20202020, 0x20202020, 0x20202020), 20);
        due("valid", x.errorPosition(), -1);
        x.truncate(0);
        due("zeros are skipped", x.append(0x70006f00, 0x00690000, 0x0000006e, 0x74007300, 0x00000032), 7);
        due("order of the bytes", x.errorPosition(), -1);
        due("high bytes", x.append(0xff80ffff, 0, 0, 0, 0x80000000), 12);
        due("high byte is a token", x.errorPosition(), 7);
        x.truncate(0);
        for (int k = 1; k <= 15; k++) {
            due("filling", x.append(-1, -1, -1, -1, -1), 20 * k);
        }
        refused("byte 301", x, STATE, () -> x.append(1, 0, 0, 0, 0));
        refused("byte 301, last", x, STATE, () -> x.append(0, 0, 0, 0, 0x01000000));
        due("none more", x.append(0, 0, 0, 0, 0), 300);
        x.truncate(298);
        refused("3 where 2 fit", x, STATE, () -> x.append(0x01000100, 0, 0, 0x00010000, 0));
        refused("3 where 2 fit, in the second", x, STATE, () -> x.append(0, 0x41414100, 0, 0, 0));
        refused("3 where 2 fit, in the third", x, STATE, () -> x.append(0, 0, 0x80008080, 0, 0));
        refused("3 where 2 fit, in the fourth", x, STATE, () -> x.append(0, 0, 0, 0x00ff80ff, 0));
        due("length kept", lengthOf(x), 298);
        due("2 where 2 fit", x.append(0, 0x00410000, 0, 0, 0x41), 300);
    }

    private static void truncate() {
        test = "promise 3";
        FaceLattice x = new FaceLattice();
        due("empty", x.truncate(0), 0);
        refused("1 of 0", x, ARGUMENT, () -> x.truncate(1));
        type(x, "points 23");
        refused("-1", x, ARGUMENT, () -> x.truncate(-1));
        refused("10 of 9", x, ARGUMENT, () -> x.truncate(10));
        refused("lowest", x, ARGUMENT, () -> x.truncate(LOW));
        refused("highest", x, ARGUMENT, () -> x.truncate(HIGH));
        due("same length", x.truncate(9), 9);
        due("number too large", x.errorPosition(), 7);
        due("shorter", x.truncate(8), 8);
        due("the front is kept", x.errorPosition(), -1);
        refused("back again", x, ARGUMENT, () -> x.truncate(9));
    }

    private static void errorPosition() {
        test = "promise 4";
        String[] valid = {"points 1", "points 8", "simplex 2", "simplex 8", "cycle 3", "cycle 8", "cube 1", "cube 3",
            "cross 1", "cross 3", "points8", "  cube   2  ", "points 0008", "points 3;facet 0", "points3;facet2 1 0",
            " points 3 ; facet 2 ; facet 2 ", "points 8;facet 0 1 2 3 4 5 6 7", "simplex 8;facet 0;facet 0",
            "points 2;facet 0000 0001"};
        for (String text : valid) {
            due("\"" + text + "\"", errorIn(text), -1);
        }
        String ten = "points 1" + ";facet 0".repeat(10);
        due("ten facets", errorIn(ten), -1);
        due("eleventh facet", errorIn(ten + ";facet 0"), ten.length() + 1);
        due("eleventh facet after cube", errorIn("cube 3" + ";facet 0".repeat(5)), 6 + 4 * 8 + 1);
        due("eleventh facet after simplex", errorIn("simplex 8;facet 0;facet 0; facet"), 9 + 2 * 8 + 2);
        due("nothing after the tenth", errorIn(ten + " ; "), ten.length() + 3);
        due("eleventh word is not read", errorIn(ten + ";cube"), ten.length() + 1);
        String[] texts = {"", "   ", "points", "points ", "points 0", "points 9", "points 00008", "simplex 1",
            "simplex 9", "cycle 2", "cycle 9", "cube 0", "cube 4", "cross 0", "cross 4", "facet 0", "pointsx 3",
            "point 3", "Points 3", "p oints 3", ";points 3", "points;", "points 3;", "points 3; ", "points 3;;",
            "points 3 3", "points 3,", "points 3;points 3", "points 3;facet", "points 3;facet ", "points 3;facet 3",
            "points 3;facet 0 0", "points 3;facet 00 0", "points 3;facet 0 1 2 1", "points 3;facet 0;",
            "points 3;facet 0 x", "points 3;facet;", "points 3;facet 0,1", "points 3;facets 0", "points 3;facet 0facet",
            "points -1", "points 3;facet -1", "points 2;facet 01", "points 2;facet 0 1 0", "points 3;facet 00000",
            "points 3\n", "points\t3", "points 12345", "points 3;facet 9999", "points 3 facet 0",
            "points 8;facet 0 1 2 3 4 5 6 7 0", "cube a", "3", "points 3;cube 2", "points 2;facet 1 00001",
            "xoints 3", "pointsz 3", "points 89", "points 2;zacet 1", "apoints 2", "points 2`", "points 2{", "points 2/",
            "points 2:", "points 2 ; facet 1 ;"};
        int[] due = {0, 3, 6, 7, 7, 7, 7, 8,
            8, 6, 6, 5, 5, 6, 6, 0, 0,
            0, 0, 0, 0, 6, 9, 10, 9,
            9, 8, 9, 14, 15, 15,
            17, 18, 21, 17,
            17, 14, 16, 9, 16,
            7, 15, -1, 19, 15,
            8, 6, 7, 15, 9,
            31, 5, 0, 9, 17,
            0, 0, 7, 9, 0, 8, 8, 8,
            8, 20};
        for (int k = 0; k < texts.length; k++) {
            due("\"" + texts[k] + "\"", errorIn(texts[k]), due[k]);
        }
        FaceLattice x = of("cycle 4");
        type(x, "points 3");
        due("checking", x.errorPosition(), -1);
        due("checking twice", x.errorPosition(), -1);
        due("points are kept", x.pointCount(), 4);
        facetsDue("facets are kept", x, 3, 6, 12, 9);
        due("buffer is kept", lengthOf(x), 8);
    }

    private static void load() {
        test = "promise 5";
        FaceLattice x = of("points 3;facet 0 2;facet 1");
        facetsDue("loaded", x, 5, 2);
        due("points", x.pointCount(), 3);
        due("buffer is empty", lengthOf(x), 0);
        refused("empty text", x, ARGUMENT, x::load);
        x.save();
        x.addFacet(1);
        type(x, "cube 4");
        refused("wrong text", x, ARGUMENT, x::load);
        due("buffer is kept", lengthOf(x), 6);
        due("history is kept", x.undoCount(), 1);
        due("copy is kept", x.isLike(), false);
        x.truncate(5);
        type(x, "2;facet 3 0");
        due("load", x.load(), 5);
        facetsDue("loaded again", x, 5, 10, 3, 12, 9);
        due("no history", x.undoCount(), 0);
        refused("no undo", x, STATE, x::undo);
        refused("no copy", x, STATE, x::restore);
        refused("no copy to compare", x, STATE, x::isLike);
        due("buffer is empty again", lengthOf(x), 0);
        type(x, "points 6");
        due("no facets", x.load(), 0);
        due("faces follow", x.faceCount(), 1);
    }

    private static void shapes() {
        facetsDue("points", of("points 8"));
        facetsDue("simplex 2", of("simplex 2"), 2, 1);
        facetsDue("simplex 4", of("simplex 4"), 14, 13, 11, 7);
        facetsDue("simplex 8", of("simplex 8"), 254, 253, 251, 247, 239, 223, 191, 127);
        facetsDue("cycle 3", of("cycle 3"), 3, 6, 5);
        facetsDue("cycle 8", of("cycle 8"), 3, 6, 12, 24, 48, 96, 192, 129);
        facetsDue("cube 1", of("cube 1"), 1, 2);
        facetsDue("cube 2", of("cube 2"), 5, 10, 3, 12);
        facetsDue("cube 3", of("cube 3"), 85, 170, 51, 204, 15, 240);
        facetsDue("cross 1", of("cross 1"), 1, 2);
        facetsDue("cross 2", of("cross 2"), 5, 6, 9, 10);
        facetsDue("cross 3", of("cross 3"), 21, 22, 25, 26, 37, 38, 41, 42);
        due("points of cube 3", of("cube 3").pointCount(), 8);
        due("points of cube 1", of("cube 1").pointCount(), 2);
        due("points of cross 3", of("cross 3").pointCount(), 6);
        due("points of cross 1", of("cross 1").pointCount(), 2);
        due("points of simplex 5", of("simplex 5").pointCount(), 5);
        due("points of cycle 7", of("cycle 7").pointCount(), 7);
    }

    // 6 to 14

    private static void setIncident() {
        test = "promise 6";
        FaceLattice x = of("points 3;facet 0;facet 1 2");
        due("in", x.setIncident(2, 0, true), false);
        due("in again", x.setIncident(2, 0, true), true);
        due("out", x.setIncident(1, 1, false), true);
        due("out again", x.setIncident(1, 1, false), false);
        facetsDue("set", x, 5, 4);
        due("changes without effect count", x.undoCount(), 4);
        due("faces follow", x.faceCount(), 3);
        refused("point 3", x, INDEX, () -> x.setIncident(3, 0, true));
        refused("point -1", x, INDEX, () -> x.setIncident(-1, 0, true));
        refused("point 32", x, INDEX, () -> x.setIncident(32, 0, true));
        refused("facet 2", x, INDEX, () -> x.setIncident(0, 2, false));
        refused("facet -1", x, INDEX, () -> x.setIncident(0, -1, false));
        refused("both", x, INDEX, () -> x.setIncident(HIGH, LOW, false));
        x.undo();
        x.undo();
        x.setIncident(0, 0, false);
        facetsDue("after an undo", x, 4, 6);
        FaceLattice none = new FaceLattice();
        refused("no facet", none, INDEX, () -> none.setIncident(0, 0, true));
        FaceLattice full = of("points 8" + ";facet 7".repeat(10));
        due("the last of the last", full.setIncident(7, 9, false), true);
        due("facet 9", full.facet(9), 0);
        due("facet 8", full.facet(8), 128);
    }

    private static void addFacet() {
        test = "promise 7";
        FaceLattice x = of("points 3");
        due("first", x.addFacet(5), 0);
        due("empty", x.addFacet(0), 1);
        due("all", x.addFacet(7), 2);
        due("equal set", x.addFacet(5), 3);
        facetsDue("added", x, 5, 0, 7, 5);
        due("undoCount", x.undoCount(), 4);
        x.undo();
        x.addFacet(6);
        facetsDue("after an undo", x, 5, 0, 7, 6);
        refused("point 3", x, ARGUMENT, () -> x.addFacet(8));
        refused("point 31", x, ARGUMENT, () -> x.addFacet(LOW));
        refused("all bits", x, ARGUMENT, () -> x.addFacet(-1));
        for (int f = 4; f < 10; f++) {
            due("more", x.addFacet(f % 8), f);
        }
        refused("an eleventh", x, STATE, () -> x.addFacet(1));
        refused("a wrong eleventh", x, ARGUMENT, () -> x.addFacet(9));
        due("ten", x.facetCount(), 10);
    }

    private static void removeFacet() {
        test = "promise 8";
        FaceLattice x = of("points 4;facet 0;facet 1;facet 2;facet 3;facet 0 3");
        due("middle", x.removeFacet(1), 2);
        facetsDue("moved", x, 1, 4, 8, 9);
        due("last", x.removeFacet(3), 9);
        due("first", x.removeFacet(0), 1);
        facetsDue("moved again", x, 4, 8);
        refused("2 of 2", x, INDEX, () -> x.removeFacet(2));
        refused("-1", x, INDEX, () -> x.removeFacet(-1));
        refused("highest", x, INDEX, () -> x.removeFacet(HIGH));
        x.removeFacet(0);
        due("the only one", x.removeFacet(0), 8);
        refused("none left", x, INDEX, () -> x.removeFacet(0));
        due("undoCount", x.undoCount(), 5);
        facesDue("faces follow", x, 15);
        x.undo();
        due("after an undo", x.removeFacet(0), 8);
        facetsDue("after an undo", x);
        FaceLattice y = of("points 4;facet 0;facet 1;facet 2");
        type(y, "cube 1");
        y.errorPosition();
        y.removeFacet(1);
        facetsDue("after a check of a text", y, 1, 4);
    }

    private static void dual() {
        test = "promise 9";
        FaceLattice x = of("cycle 4");
        due("faces", x.dual(), 10);
        facetsDue("dual", x, 9, 3, 6, 12);
        due("again", x.dual(), 10);
        facetsDue("dual of the dual", x, 3, 6, 12, 9);
        due("undoCount", x.undoCount(), 2);
        FaceLattice cube = of("cube 3");
        due("cube", cube.dual(), 28);
        due("points", cube.pointCount(), 6);
        facetsDue("cross", cube, 21, 22, 25, 26, 37, 38, 41, 42);
        FaceLattice odd = of("points 3;facet 0;facet 0");
        due("other number of faces", odd.dual(), 2);
        facetsDue("empty facets", odd, 3, 0, 0);
        FaceLattice none = of("points 4");
        refused("no facets", none, STATE, none::dual);
        FaceLattice nine = of("cube 3;facet 0;facet 0;facet 0");
        refused("nine facets", nine, STATE, nine::dual);
        nine.removeFacet(8);
        due("eight facets", nine.dual() > 0, true);
        due("eight points", nine.pointCount(), 8);
    }

    private static void pyramid() {
        test = "promise 10";
        FaceLattice x = new FaceLattice();
        due("of a point", x.pyramid(), 2);
        facetsDue("of a point", x, 1);
        FaceLattice y = of("cycle 3");
        due("faces", y.pyramid(), 16);
        due("points", y.pointCount(), 4);
        facetsDue("tetrahedron", y, 11, 14, 13, 7);
        due("undoCount", y.undoCount(), 1);
        FaceLattice eight = of("points 8");
        refused("8 points", eight, STATE, eight::pyramid);
        FaceLattice ten = of("points 2" + ";facet 0".repeat(10));
        refused("10 facets", ten, STATE, ten::pyramid);
        ten.removeFacet(0);
        due("9 facets", ten.pyramid(), 4);
        due("now 10", ten.facetCount(), 10);
        FaceLattice seven = of("points 7");
        due("7 points", seven.pyramid(), 2);
        due("now 8", seven.pointCount(), 8);
    }

    private static void stack() {
        test = "promise 11";
        FaceLattice x = of("simplex 4");
        due("facets", x.stack(1), 6);
        facetsDue("stacked", x, 14, 11, 7, 21, 25, 28);
        due("points", x.pointCount(), 5);
        due("undoCount", x.undoCount(), 1);
        refused("facet 6", x, INDEX, () -> x.stack(6));
        refused("facet -1", x, INDEX, () -> x.stack(-1));
        FaceLattice twice = of("points 3;facet 0 1;facet 0 1;facet 1;facet 0");
        due("equal facets", twice.stack(0), 5);
        facetsDue("one of them is removed", twice, 3, 2, 1, 9, 10);
        FaceLattice bottom = of("points 2;facet 0");
        refused("covers no face", bottom, STATE, () -> bottom.stack(0));
        FaceLattice eight = of("simplex 8");
        refused("8 points", eight, STATE, () -> eight.stack(0));
        refused("8 points, wrong facet", eight, INDEX, () -> eight.stack(8));
        FaceLattice ring = of("cycle 8");
        refused("8 points, few facets", ring, STATE, () -> ring.stack(0));
        FaceLattice eleven = of("points 3" + ";facet 0 1".repeat(8) + ";facet 0;facet 1");
        refused("just 11", eleven, STATE, () -> eleven.stack(0));
        FaceLattice cube = of("cross 3");
        due("just 10", cube.stack(0), 10);
        refused("12", cube, STATE, () -> cube.stack(0));
        FaceLattice ten = of("points 3" + ";facet 0 1".repeat(9) + ";facet 1 2");
        due("10 stay 10", ten.stack(9), 10);
        facetsDue("in its place the last", ten, 3, 3, 3, 3, 3, 3, 3, 3, 3, 10);
        FaceLattice order = of("points 5;facet 0 1 2 3 4;facet 3 4;facet 0;facet 1 2;facet 4;facet 1");
        due("order of the faces", order.stack(0), 8);
        facetsDue("lower rank first", order, 24, 1, 6, 16, 2, 33, 38, 56);
    }

    private static void cutOff() {
        test = "promise 12";
        FaceLattice x = of("simplex 3");
        due("points", x.cutOff(1), 4);
        facetsDue("cut", x, 10, 3, 5, 12);
        due("undoCount", x.undoCount(), 1);
        FaceLattice y = of("simplex 4");
        due("tetrahedron", y.cutOff(0), 6);
        facetsDue("prism", y, 7, 54, 45, 27, 56);
        due("prism's faces", y.faceCount(), 22);
        FaceLattice last = of("cycle 5");
        due("last point", last.cutOff(4), 6);
        facetsDue("hexagon", last, 3, 6, 12, 40, 17, 48);
        FaceLattice alone = of("points 3;facet 0;facet 1;facet 2");
        refused("no neighbour", alone, STATE, () -> alone.cutOff(0));
        refused("point 3", alone, INDEX, () -> alone.cutOff(3));
        refused("point -1", alone, INDEX, () -> alone.cutOff(-1));
        FaceLattice one = new FaceLattice();
        refused("one point", one, STATE, () -> one.cutOff(0));
        FaceLattice cube = of("cube 3");
        refused("10 points", cube, STATE, () -> cube.cutOff(0));
        FaceLattice five = of("simplex 5");
        due("8 points fit", five.cutOff(2), 8);
        FaceLattice ten = of("points 2" + ";facet 0".repeat(10));
        refused("10 facets", ten, STATE, () -> ten.cutOff(0));
        refused("10 facets, wrong point", ten, INDEX, () -> ten.cutOff(2));
        ten.removeFacet(9);
        due("9 facets", ten.cutOff(1), 2);
        facetsDue("facets without the point", ten, 1, 1, 1, 1, 1, 1, 1, 1, 1, 2);
        FaceLattice lone = of("points 3;facet 0 1;facet 0;facet 1;facet 2;facet 0 2");
        due("a facet with the point alone", lone.cutOff(0), 4);
        facetsDue("loses it", lone, 5, 0, 1, 2, 10, 12);
    }

    private static void keepFace() {
        test = "promise 13";
        FaceLattice x = of("cube 3");
        int side = x.indexOf(0xaa);
        due("facets", x.keepFace(side), 4);
        due("points", x.pointCount(), 4);
        facetsDue("square", x, 3, 5, 10, 12);
        due("undoCount", x.undoCount(), 1);
        due("last face", x.keepFace(x.faceCount() - 1), 4);
        facetsDue("same square", x, 3, 5, 10, 12);
        due("an edge", x.keepFace(x.indexOf(10)), 2);
        facetsDue("edge", x, 1, 2);
        due("a point", x.keepFace(1), 1);
        facetsDue("point", x, 0);
        due("points", x.pointCount(), 1);
        refused("empty face", x, STATE, () -> x.keepFace(0));
        refused("face 2", x, INDEX, () -> x.keepFace(2));
        refused("face -1", x, INDEX, () -> x.keepFace(-1));
        FaceLattice low = of("points 4;facet 1 3;facet 1 2 3");
        due("least face with points", low.keepFace(0), 0);
        due("its points", low.pointCount(), 2);
        due("its faces", low.faceCount(), 1);
        FaceLattice ten = of("points 5;facet 0 1;facet 0 2;facet 0 3;facet 0 4;facet 1 2;facet 1 3;facet 1 4"
                + ";facet 2 3;facet 2 4;facet 3 4");
        due("covers 10", ten.keepFace(ten.faceCount() - 1), 10);
        facetsDue("in the order of the faces", ten, 3, 5, 6, 9, 10, 12, 17, 18, 20, 24);
        FaceLattice order = of("points 5;facet 3 4;facet 0;facet 1 2;facet 4;facet 1");
        due("lower rank first", order.keepFace(order.faceCount() - 1), 3);
        facetsDue("lower rank first", order, 1, 6, 24);
    }

    private static void figure() {
        test = "promise 14";
        FaceLattice x = of("cube 3");
        due("points", x.figure(0), 3);
        facetsDue("triangle", x, 6, 5, 3);
        due("undoCount", x.undoCount(), 1);
        FaceLattice y = of("cycle 4");
        y.pyramid();
        due("apex", y.figure(4), 4);
        facetsDue("square", y, 3, 6, 12, 9);
        refused("point 4", y, INDEX, () -> y.figure(4));
        refused("point -1", y, INDEX, () -> y.figure(-1));
        FaceLattice one = new FaceLattice();
        refused("covered by none", one, STATE, () -> one.figure(0));
        FaceLattice two = of("points 2;facet 0");
        refused("closure is all", two, STATE, () -> two.figure(1));
        due("closure of 0", two.figure(0), 1);
        facetsDue("a facet without points", two, 0);
        FaceLattice seven = of("simplex 8");
        due("7 covers", seven.figure(7), 7);
        facetsDue("simplex", seven, 126, 125, 123, 119, 111, 95, 63);
        FaceLattice order = of("points 6;facet 0 3 4;facet 0 4;facet 0 1 2;facet 0 4 5;facet 0 2");
        due("order of the faces", order.figure(0), 2);
        facetsDue("lower number first", order, 2, 2, 1, 2, 1);
    }

    // 15 to 18

    private static void undo() {
        test = "promise 15";
        FaceLattice x = of("points 4");
        refused("nothing", x, STATE, x::undo);
        for (int k = 1; k <= 10; k++) {
            x.addFacet(k);
            test = "promise 16";
            due("undoCount", x.undoCount(), Math.min(k, 8));
            test = "promise 15";
        }
        refused("not a change", x, STATE, () -> x.addFacet(1));
        for (int k = 7; k >= 5; k--) {
            due("undo", x.undo(), k);
        }
        facetsDue("after 3", x, 1, 2, 3, 4, 5, 6, 7);
        x.setIncident(3, 6, true);
        due("count", x.undoCount(), 6);
        x.dual();
        due("undo dual", x.undo(), 6);
        facetsDue("dual undone", x, 1, 2, 3, 4, 5, 6, 15);
        due("points", x.pointCount(), 4);
        for (int k = 5; k >= 0; k--) {
            due("undo", x.undo(), k);
        }
        facetsDue("the oldest of 8", x, 1, 2);
        due("faces follow", x.faceCount(), 4);
        refused("no more", x, STATE, x::undo);
        FaceLattice y = of("cycle 3");
        y.stack(0);
        y.cutOff(0);
        y.pyramid();
        y.figure(5);
        y.keepFace(y.faceCount() - 1);
        y.removeFacet(0);
        due("six kinds", y.undoCount(), 6);
        for (int k = 5; k >= 0; k--) {
            due("undo", y.undo(), k);
        }
        facetsDue("back at the start", y, 3, 6, 5);
        due("three points", y.pointCount(), 3);
    }

    private static void save() {
        test = "promise 17";
        FaceLattice x = of("cycle 4");
        due("save", x.save(), 4);
        x.addFacet(3);
        due("history goes on", x.undoCount(), 1);
        test = "promise 18";
        x.pyramid();
        due("restore", x.restore(), 4);
        facetsDue("restored", x, 3, 6, 12, 9);
        due("no history", x.undoCount(), 0);
        refused("no undo", x, STATE, x::undo);
        x.pyramid();
        test = "promise 17";
        due("in place of the earlier one", x.save(), 5);
        x.undo();
        due("undo keeps the copy", x.isLike(), false);
        x.setIncident(0, 0, false);
        test = "promise 18";
        due("restore the later", x.restore(), 5);
        facetsDue("restored", x, 19, 22, 28, 25, 15);
        due("faces follow", x.faceCount(), 20);
        x.removeFacet(0);
        due("the copy is kept", x.restore(), 5);
        facetsDue("restored again", x, 19, 22, 28, 25, 15);
        x.setIncident(0, 1, true);
        due("the copy does not change with the object", x.isLike(), false);
        FaceLattice none = new FaceLattice();
        none.addFacet(1);
        refused("no copy", none, STATE, none::restore);
    }

    // 19 to 23

    private static void counts() {
        FaceLattice x = of("cube 3");
        test = "promise 19";
        due("points", x.pointCount(), 8);
        x.figure(2);
        due("fewer points", x.pointCount(), 3);
        test = "promise 20";
        due("facets", x.facetCount(), 3);
        x.addFacet(0);
        due("one more", x.facetCount(), 4);
    }

    private static void facets() {
        test = "promise 21";
        FaceLattice x = of("points 8;facet 7;facet 0 7;facet 1");
        due("facet 0", x.facet(0), 128);
        due("facet 1", x.facet(1), 129);
        due("facet 2", x.facet(2), 2);
        refused("facet 3", x, INDEX, () -> x.facet(3));
        refused("facet -1", x, INDEX, () -> x.facet(-1));
        refused("facet 10", x, INDEX, () -> x.facet(10));
        test = "promise 22";
        due("point 7", x.facetsOf(7), 3);
        due("point 0", x.facetsOf(0), 2);
        due("point 6", x.facetsOf(6), 0);
        refused("point 8", x, INDEX, () -> x.facetsOf(8));
        refused("point -1", x, INDEX, () -> x.facetsOf(-1));
        FaceLattice full = of("points 1" + ";facet 0".repeat(10));
        due("ten", full.facetsOf(0), 1023);
        refused("point 1", full, INDEX, () -> full.facetsOf(1));
    }

    private static void closure() {
        test = "promise 23";
        FaceLattice x = of("points 4;facet 0 1 2;facet 0 1 3");
        due("of none", x.closure(0), 3);
        due("of 0", x.closure(1), 3);
        due("of 2", x.closure(4), 7);
        due("of 1 and 3", x.closure(10), 11);
        due("in no facet", x.closure(12), 15);
        due("of all", x.closure(15), 15);
        refused("point 4", x, ARGUMENT, () -> x.closure(16));
        refused("all bits", x, ARGUMENT, () -> x.closure(-1));
        refused("bit 31", x, ARGUMENT, () -> x.closure(LOW));
        due("no facets", of("points 3").closure(0), 7);
        due("empty facet", of("points 3;facet 0;facet 1").closure(0), 0);
    }

    // 24 to 36

    private static void faces() {
        test = "promise 25";
        facesDue("simplex", of("simplex 3"), 0, 1, 2, 4, 3, 5, 6, 7);
        facesDue("by rank, then by set", of("points 4;facet 2 3;facet 0;facet 3;facet 0 1"), 0, 1, 8, 3, 12, 15);
        facesDue("no facets", of("points 3"), 7);
        facesDue("equal facets", of("points 2;facet 0;facet 0"), 1, 3);
        facesDue("whole facet", of("points 2;facet 0 1"), 3);
        FaceLattice x = of("cycle 4");
        refused("face 10", x, INDEX, () -> x.face(10));
        refused("face -1", x, INDEX, () -> x.face(-1));
        refused("face 255", x, INDEX, () -> x.face(255));
        test = "promise 24";
        due("256", of("simplex 8").faceCount(), 256);
        due("cube", of("cube 3").faceCount(), 28);
        due("1", new FaceLattice().faceCount(), 1);
        test = "promise 26";
        due("first", x.indexOf(0), 0);
        due("an edge", x.indexOf(10), FaceLattice.NONE);
        due("an edge", x.indexOf(9), 7);
        due("all", x.indexOf(15), 9);
        due("more than the points", x.indexOf(31), FaceLattice.NONE);
        due("a face and other bits", x.indexOf(0x80000003), FaceLattice.NONE);
        due("all bits", x.indexOf(-1), FaceLattice.NONE);
        due("highest", x.indexOf(HIGH), FaceLattice.NONE);
        due("bit 8", of("simplex 8").indexOf(256), FaceLattice.NONE);
        due("bits 0 to 7", of("simplex 8").indexOf(255), 255);
    }

    private static void ranks() {
        test = "promise 27";
        FaceLattice x = of("points 4;facet 2 3;facet 0;facet 3;facet 0 1");
        int[] ranks = {0, 1, 1, 2, 2, 3};
        for (int c = 0; c < 6; c++) {
            due("rank of " + c, x.rank(c), ranks[c]);
        }
        FaceLattice uneven = of("points 4;facet 0;facet 0 1;facet 2 3");
        facesDue("uneven", uneven, 0, 1, 12, 3, 15);
        due("greatest rank counts", uneven.rank(4), 3);
        refused("face 5", uneven, INDEX, () -> uneven.rank(5));
        refused("face -1", uneven, INDEX, () -> uneven.rank(-1));
        test = "promise 28";
        due("height", uneven.height(), 3);
        due("of one face", new FaceLattice().height(), 0);
        due("of a simplex", of("simplex 8").height(), 8);
        test = "promise 29";
        due("rank 0", uneven.ofRank(0), 1);
        due("rank 1", uneven.ofRank(1), 2);
        due("rank 2", uneven.ofRank(2), 1);
        due("rank 3", uneven.ofRank(3), 1);
        refused("rank 4", uneven, ARGUMENT, () -> uneven.ofRank(4));
        refused("rank -1", uneven, ARGUMENT, () -> uneven.ofRank(-1));
        refused("rank 100", uneven, ARGUMENT, () -> uneven.ofRank(100));
        FaceLattice eight = of("simplex 8");
        int[] binomials = {1, 8, 28, 56, 70, 56, 28, 8, 1};
        for (int r = 0; r <= 8; r++) {
            due("rank " + r, eight.ofRank(r), binomials[r]);
        }
        refused("rank 9", eight, ARGUMENT, () -> eight.ofRank(9));
    }

    private static void covers() {
        FaceLattice x = of("points 4;facet 0;facet 0 1;facet 2 3");
        test = "promise 30";
        due("up from 0", x.covers(0, true), 2);
        due("down from 0", x.covers(0, false), 0);
        due("up from 12", x.covers(2, true), 1);
        due("down from all", x.covers(4, false), 2);
        due("up from all", x.covers(4, true), 0);
        refused("face 5", x, INDEX, () -> x.covers(5, true));
        refused("face -1", x, INDEX, () -> x.covers(-1, false));
        test = "promise 31";
        due("first up", x.cover(0, true, 0), 1);
        due("second up", x.cover(0, true, 1), 2);
        due("past a rank", x.cover(2, true, 0), 4);
        due("first down", x.cover(4, false, 0), 2);
        due("second down", x.cover(4, false, 1), 3);
        refused("third", x, INDEX, () -> x.cover(0, true, 2));
        refused("index -1", x, INDEX, () -> x.cover(0, true, -1));
        refused("lowest index", x, INDEX, () -> x.cover(0, true, LOW));
        refused("none above all", x, INDEX, () -> x.cover(4, true, 0));
        refused("face 5", x, INDEX, () -> x.cover(5, true, 0));
        refused("face -1", x, INDEX, () -> x.cover(-1, true, 0));
    }

    private static void joinAndMeet() {
        FaceLattice x = of("cube 3");
        test = "promise 32";
        due("points of an edge", x.face(x.join(x.indexOf(1), x.indexOf(2))), 3);
        due("points of a side", x.face(x.join(x.indexOf(1), x.indexOf(8))), 15);
        due("opposite points", x.join(x.indexOf(1), x.indexOf(128)), 27);
        due("of one", x.join(5, 5), 5);
        due("with the first", x.join(0, 9), 9);
        due("with the last", x.join(27, 9), 27);
        refused("first missing", x, INDEX, () -> x.join(28, 0));
        refused("second missing", x, INDEX, () -> x.join(0, 28));
        refused("negative", x, INDEX, () -> x.join(0, -1));
        test = "promise 33";
        due("sides", x.face(x.meet(x.indexOf(15), x.indexOf(0x55))), 5);
        due("opposite sides", x.meet(x.indexOf(15), x.indexOf(240)), 0);
        due("of one", x.meet(5, 5), 5);
        due("with the last", x.meet(27, 9), 9);
        due("with the first", x.meet(0, 9), 0);
        refused("first missing", x, INDEX, () -> x.meet(28, 0));
        refused("second missing", x, INDEX, () -> x.meet(0, 28));
        refused("negative", x, INDEX, () -> x.meet(-1, 0));
        test = "promise 34";
        due("all", x.between(0, 27), 28);
        due("a side", x.between(0, x.indexOf(15)), 10);
        due("above a point", x.between(1, 27), 8);
        due("itself", x.between(4, 4), 1);
        due("not contained", x.between(1, 2), 0);
        due("the wrong way", x.between(27, 0), 0);
        refused("first missing", x, INDEX, () -> x.between(28, 0));
        refused("second missing", x, INDEX, () -> x.between(0, 28));
        refused("both negative", x, INDEX, () -> x.between(-1, -1));
    }

    private static void chains() {
        test = "promise 35";
        FaceLattice x = of("cube 3");
        due("flags of a cube", x.chains(0, 27), 48);
        due("of a side", x.chains(0, x.indexOf(15)), 8);
        due("above a point", x.chains(1, 27), 6);
        due("one cover", x.chains(0, 1), 1);
        due("itself", x.chains(27, 27), 1);
        due("not contained", x.chains(1, 2), 0);
        due("the wrong way", x.chains(1, 0), 0);
        refused("first missing", x, INDEX, () -> x.chains(28, 0));
        refused("second missing", x, INDEX, () -> x.chains(0, 28));
        refused("negative", x, INDEX, () -> x.chains(LOW, 0));
        FaceLattice uneven = of("points 4;facet 0;facet 0 1;facet 2 3");
        due("of unlike length", uneven.chains(0, 4), 2);
        FaceLattice most = of("simplex 8");
        due("most", most.chains(0, 255), 40320);
        test = "promise 42";
        due("flags", uneven.flags(), 2);
        due("most", most.flags(), 40320);
        due("one face", new FaceLattice().flags(), 1);
        due("cross", of("cross 3").flags(), 48);
    }

    private static void mobius() {
        test = "promise 36";
        FaceLattice x = of("cube 3");
        due("itself", x.mobius(3, 3), 1);
        due("a cover", x.mobius(0, 1), -1);
        due("a side", x.mobius(0, x.indexOf(15)), -1);
        due("the cube", x.mobius(0, 27), 1);
        due("not contained", x.mobius(1, 2), 0);
        due("the wrong way", x.mobius(27, 0), 0);
        refused("first missing", x, INDEX, () -> x.mobius(28, 0));
        refused("second missing", x, INDEX, () -> x.mobius(0, 28));
        refused("negative", x, INDEX, () -> x.mobius(0, -1));
        FaceLattice flat = of("points 5;facet 0;facet 1;facet 2;facet 3;facet 4");
        due("five between", flat.mobius(0, 6), 4);
        FaceLattice line = of("points 3;facet 0;facet 0 1;facet 0 1 2;facet 1");
        due("a chain of two", line.mobius(line.indexOf(1), line.indexOf(7)), 0);
        FaceLattice odd = of("points 4;facet 0 1 2;facet 0 1 3;facet 0 2 3;facet 1 2 3;facet 0;facet 1");
        due("first to last", odd.mobius(0, odd.faceCount() - 1), 1);
        FaceLattice uniform = of("points 4;facet 0 1;facet 0 2;facet 0 3;facet 1 2;facet 1 3;facet 2 3");
        due("rank 3 on 4 points", uniform.mobius(0, uniform.faceCount() - 1), -3);
    }

    // 37 to 42

    private static void kinds() {
        FaceLattice uneven = of("points 4;facet 0;facet 0 1;facet 2 3");
        FaceLattice flat = of("points 3;facet 0;facet 1;facet 2");
        FaceLattice line = of("points 2;facet 0");
        FaceLattice one = new FaceLattice();
        FaceLattice cube = of("cube 3");
        FaceLattice cross = of("cross 3");
        FaceLattice simplex = of("simplex 5");
        FaceLattice chain = of("points 3;facet 0;facet 0 1");
        test = "promise 37";
        due("uneven", uneven.isGraded(), false);
        due("flat", flat.isGraded(), true);
        due("one face", one.isGraded(), true);
        due("cube", cube.isGraded(), true);
        test = "promise 38";
        due("uneven", uneven.alternating(), -1);
        due("flat", flat.alternating(), -1);
        due("one", one.alternating(), 1);
        due("line", line.alternating(), 0);
        due("cube", cube.alternating(), 0);
        due("chain", chain.alternating(), 1);
        test = "promise 39";
        due("uneven", uneven.isEulerian(), false);
        due("three points between", flat.isEulerian(), false);
        due("chain", chain.isEulerian(), false);
        due("one", one.isEulerian(), true);
        due("line", line.isEulerian(), true);
        due("cube", cube.isEulerian(), true);
        due("cross", cross.isEulerian(), true);
        due("simplex 8", of("simplex 8").isEulerian(), true);
        FaceLattice upper = of("points 4;facet 0 1;facet 0 2;facet 0 3");
        due("wrong above a point only", upper.isEulerian(), false);
        FaceLattice circles = of("points 6;facet 0 1;facet 1 2;facet 0 2;facet 3 4;facet 4 5;facet 3 5");
        due("two circles", circles.isEulerian(), true);
        FaceLattice spheres = of("points 8;facet 0 1 2;facet 0 1 3;facet 0 2 3;facet 1 2 3"
                + ";facet 4 5 6;facet 4 5 7;facet 4 6 7;facet 5 6 7");
        due("wrong from the first to the last only", spheres.isEulerian(), false);
        test = "promise 40";
        due("cube", cube.isSimplicial(), false);
        due("cross", cross.isSimplicial(), true);
        due("simplex", simplex.isSimplicial(), true);
        due("the last one does not matter", flat.isSimplicial(), true);
        due("one", one.isSimplicial(), true);
        due("chain", chain.isSimplicial(), true);
        due("longer chain", of("points 4;facet 0;facet 0 1;facet 0 1 2").isSimplicial(), false);
        test = "promise 41";
        due("cube", cube.isSimple(), true);
        due("cross", cross.isSimple(), false);
        due("simplex", simplex.isSimple(), true);
        due("the first one does not matter", flat.isSimple(), true);
        due("one", one.isSimple(), true);
        due("chain", chain.isSimple(), true);
        due("longer chain", of("points 4;facet 0;facet 0 1;facet 0 1 2").isSimple(), false);
    }

    // 43 to 46

    private static void neighbours() {
        test = "promise 43";
        FaceLattice x = of("cube 3");
        due("points", x.neighbours(0, false), 2 + 4 + 16);
        due("facets", x.neighbours(0, true), 4 + 8 + 16 + 32);
        refused("point 8", x, INDEX, () -> x.neighbours(8, false));
        refused("facet 6", x, INDEX, () -> x.neighbours(6, true));
        due("point 6", x.neighbours(6, false), 4 + 16 + 128);
        refused("point -1", x, INDEX, () -> x.neighbours(-1, false));
        refused("facet -1", x, INDEX, () -> x.neighbours(-1, true));
        FaceLattice equal = of("points 3;facet 0 1;facet 0 1;facet 1 2;facet 1");
        due("equal facets are none", equal.neighbours(0, true), 4);
        due("contained facets are none", equal.neighbours(3, true), 0);
        due("to both", equal.neighbours(2, true), 3);
        due("closure of two", equal.neighbours(1, false), 1 + 4);
        due("closure of three", equal.neighbours(0, false), 2);
        FaceLattice whole = of("points 2");
        due("the whole", whole.neighbours(0, false), 2);
        refused("no facet", whole, INDEX, () -> whole.neighbours(0, true));
        FaceLattice far = of("points 4;facet 0 1;facet 2 3;facet 0");
        due("only one covers", far.neighbours(0, true), 0);
        due("cover of the intersection", far.neighbours(1, true), 4);
    }

    private static void paths() {
        FaceLattice x = of("cycle 7");
        FaceLattice two = of("points 4;facet 0 1;facet 2 3;facet 0;facet 1;facet 2;facet 3");
        test = "promise 44";
        due("same", x.distance(3, 3, false), 0);
        due("neighbour", x.distance(0, 6, false), 1);
        due("far", x.distance(0, 4, false), 3);
        due("facets", x.distance(0, 4, true), 3);
        due("same facet", x.distance(6, 6, true), 0);
        due("no path", two.distance(0, 2, false), FaceLattice.NONE);
        due("no path of facets", two.distance(0, 1, true), FaceLattice.NONE);
        refused("point 7", x, INDEX, () -> x.distance(7, 0, false));
        refused("other 7", x, INDEX, () -> x.distance(0, 7, false));
        refused("facet 7", x, INDEX, () -> x.distance(7, 0, true));
        refused("other facet -1", x, INDEX, () -> x.distance(0, -1, true));
        refused("point -1", x, INDEX, () -> x.distance(-1, -1, false));
        test = "promise 45";
        due("to the neighbour", x.step(0, 6, false), 6);
        due("up", x.step(0, 3, false), 1);
        due("down", x.step(0, 4, false), 6);
        due("facets", x.step(0, 4, true), 6);
        due("lowest of two", of("cycle 6").step(1, 4, false), 0);
        due("lowest of three", of("cube 3").step(7, 0, false), 3);
        refused("same", x, ELEMENT, () -> x.step(2, 2, false));
        refused("same facet", x, ELEMENT, () -> x.step(2, 2, true));
        refused("no path", two, ELEMENT, () -> two.step(0, 2, false));
        refused("no path of facets", two, ELEMENT, () -> two.step(0, 1, true));
        refused("point 7", x, INDEX, () -> x.step(7, 7, false));
        refused("other 7", x, INDEX, () -> x.step(0, 7, false));
        refused("point 7 alone", x, INDEX, () -> x.step(7, 0, false));
        refused("facet -1 alone", x, INDEX, () -> x.step(-1, 0, true));
        refused("other facet 7", x, INDEX, () -> x.step(0, 7, true));
        refused("facet -1", x, INDEX, () -> x.step(-1, -1, true));
        test = "promise 46";
        due("cycle", x.diameter(false), 3);
        due("facets", x.diameter(true), 3);
        due("cube", of("cube 3").diameter(false), 3);
        due("cube's facets", of("cube 3").diameter(true), 2);
        refused("no path", two, ELEMENT, () -> two.diameter(false));
        refused("no path of facets", two, ELEMENT, () -> two.diameter(true));
        FaceLattice none = of("points 2");
        refused("no facets", none, ELEMENT, () -> none.diameter(true));
        due("points without facets", none.diameter(false), 1);
        due("one point", new FaceLattice().diameter(false), 0);
        due("one facet", of("points 2;facet 0").diameter(true), 0);
        FaceLattice apart = of("points 3");
        refused("three points without facets", apart, ELEMENT, () -> apart.diameter(false));
        FaceLattice long8 = of("points 8;facet 0 1;facet 1 2;facet 2 3;facet 3 4;facet 4 5;facet 5 6;facet 6 7");
        due("longest", long8.diameter(false), 7);
        due("longest of facets", long8.diameter(true), 6);
        due("its step", long8.step(7, 0, false), 6);
    }

    // 47 to 50

    private static void automorphisms() {
        test = "promise 47";
        due("one point", new FaceLattice().automorphisms(), 1);
        due("8 points", of("points 8").automorphisms(), 40320);
        due("simplex 8", of("simplex 8").automorphisms(), 40320);
        due("cube", of("cube 3").automorphisms(), 48);
        due("cross", of("cross 3").automorphisms(), 48);
        due("cycle 8", of("cycle 8").automorphisms(), 16);
        due("as often", of("points 2;facet 0;facet 0;facet 1").automorphisms(), 1);
        due("as often, both", of("points 2;facet 0;facet 0;facet 1;facet 1").automorphisms(), 2);
        due("order does not matter", of("points 3;facet 2;facet 0 1").automorphisms(), 2);
        due("Fano", of("points 7;facet 0 1 2;facet 0 3 4;facet 0 5 6;facet 1 3 5;facet 1 4 6;facet 2 3 6"
                + ";facet 2 4 5").automorphisms(), 168);
        due("nothing but itself", of("points 4;facet 0;facet 0 1;facet 0 1 2").automorphisms(), 1);
        test = "promise 48";
        FaceLattice x = of("points 5;facet 0 1;facet 1 2;facet 3");
        due("ends", x.orbit(0), 5);
        due("other end", x.orbit(2), 5);
        due("middle", x.orbit(1), 2);
        due("alone", x.orbit(3), 8);
        due("in no facet", x.orbit(4), 16);
        refused("point 5", x, INDEX, () -> x.orbit(5));
        refused("point -1", x, INDEX, () -> x.orbit(-1));
        due("all", of("simplex 8").orbit(7), 255);
        FaceLattice rings = of("points 7;facet 0 1;facet 1 2;facet 2 0;facet 3 4;facet 4 5;facet 5 6;facet 6 3");
        due("a ring of three", rings.orbit(1), 7);
        due("a ring of four", rings.orbit(6), 120);
        due("rings", rings.automorphisms(), 48);
    }

    private static void likeness() {
        FaceLattice x = of("points 4;facet 0 1;facet 1 2;facet 2 3");
        test = "promise 49";
        refused("no copy", x, STATE, x::isLike);
        test = "promise 50";
        refused("no copy", x, STATE, () -> x.image(0));
        refused("no copy, no point", x, INDEX, () -> x.image(4));
        x.save();
        due("first one", x.image(0), 0);
        due("itself", x.image(3), 3);
        test = "promise 49";
        due("itself", x.isLike(), true);
        x.removeFacet(0);
        due("fewer facets", x.isLike(), false);
        test = "promise 50";
        refused("none", x, ELEMENT, () -> x.image(0));
        refused("none, no point", x, INDEX, () -> x.image(-1));
        test = "promise 49";
        x.addFacet(9);
        due("path 1 2 3 0", x.isLike(), true);
        test = "promise 50";
        int[] images = {0, 3, 2, 1};
        for (int p = 0; p < 4; p++) {
            due("image of " + p, x.image(p), images[p]);
        }
        test = "promise 49";
        x.addFacet(8);
        x.removeFacet(0);
        due("other sizes", x.isLike(), false);
        x.undo();
        x.undo();
        due("again", x.isLike(), true);
        x.pyramid();
        due("more points", x.isLike(), false);
        test = "promise 50";
        refused("more points", x, ELEMENT, () -> x.image(4));
        FaceLattice rings = of("points 6;facet 0 1;facet 1 2;facet 2 0;facet 3 4;facet 4 5;facet 5 3");
        rings.save();
        test = "promise 49";
        int[] ring = {3, 6, 12, 24, 48, 33};
        for (int f = 0; f < 6; f++) {
            for (int p = 0; p < 6; p++) {
                rings.setIncident(p, f, (ring[f] >> p & 1) == 1);
            }
        }
        due("same degrees, other rings", rings.isLike(), false);
        test = "promise 50";
        refused("same degrees, other rings", rings, ELEMENT, () -> rings.image(0));
        FaceLattice twice = of("points 2;facet 0;facet 0;facet 1");
        twice.save();
        test = "promise 49";
        twice.setIncident(0, 0, false);
        twice.setIncident(1, 0, true);
        due("each as often", twice.isLike(), true);
        test = "promise 50";
        due("exchanged", twice.image(0), 1);
        due("exchanged", twice.image(1), 0);
        FaceLattice square = of("cycle 4");
        square.save();
        square.dual();
        due("square 0", square.image(0), 0);
        due("square 1", square.image(1), 1);
        due("square 2", square.image(2), 2);
        due("square 3", square.image(3), 3);
        refused("point 4", square, INDEX, () -> square.image(4));
        refused("highest", square, INDEX, () -> square.image(HIGH));
    }
}
