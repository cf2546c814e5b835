import java.lang.management.ManagementFactory;
import java.util.function.ToIntFunction;

/** All calls of a run live in one room: an object is small, and no call but the constructor makes anything. */
public final class RoomTest {
    private static final int TIMES = 3000;
    private static final com.sun.management.ThreadMXBean THREADS =
            (com.sun.management.ThreadMXBean) ManagementFactory.getThreadMXBean();
    private static int wrong = 0;
    private static int sink = 0;

    public static void main(String[] args) {
        FaceLattice x = new FaceLattice();
        load(x, "simplex 8");
        x.save();
        measure("new", 24000, x, y -> new FaceLattice().pointCount());
        measure("load", 8, x, y -> load(y, "cube 3;facet 0 1 2"));
        measure("changes", 8, x, RoomTest::change);
        load(x, "simplex 8");
        x.save();
        measure("faces", 8, x, RoomTest::ask);
        measure("kinds and paths", 8, x, RoomTest::askWhole);
        measure("types", 8, x, y -> y.automorphisms() + y.orbit(7) + (y.isLike() ? y.image(7) : 0));
        System.out.println("room measured, " + wrong + " wrong" + (sink == 0 ? "" : "."));
        if (wrong != 0) {
            System.exit(1);
        }
    }

    private static void measure(String what, long limit, FaceLattice x, ToIntFunction<FaceLattice> calls) {
        for (int k = 0; k < 200; k++) {
            sink += calls.applyAsInt(x);
        }
        long before = THREADS.getCurrentThreadAllocatedBytes();
        for (int k = 0; k < TIMES; k++) {
            sink += calls.applyAsInt(x);
        }
        long each = (THREADS.getCurrentThreadAllocatedBytes() - before) / TIMES;
        if (each > limit) {
            wrong++;
            System.out.println(what + " takes " + each + " bytes a time, more than " + limit);
        }
    }

    private static int load(FaceLattice x, String text) {
        x.truncate(0);
        for (int k = 0; k < text.length(); k++) {
            x.append(0, 0, text.charAt(k), 0, 0);
        }
        return x.errorPosition() + x.load();
    }

    private static int change(FaceLattice x) {
        load(x, "simplex 4");
        x.setIncident(0, 0, true);
        x.addFacet(3);
        x.removeFacet(4);
        x.undo();
        x.undo();
        x.undo();
        x.stack(0);
        x.cutOff(0);
        x.undo();
        x.dual();
        x.undo();
        x.pyramid();
        x.figure(1);
        x.save();
        x.keepFace(1);
        return x.restore() + x.undoCount();
    }

    private static int ask(FaceLattice x) {
        return x.pointCount() + x.facetCount() + x.facet(1) + x.facetsOf(2) + x.closure(3) + x.faceCount() + x.face(4)
                + x.indexOf(5) + x.rank(6) + x.height() + x.ofRank(3) + x.covers(9, true) + x.cover(9, false, 0)
                + x.join(3, 9) + x.meet(3, 9) + x.between(0, 255) + x.chains(0, 255) + x.mobius(0, 255);
    }

    private static int askWhole(FaceLattice x) {
        return (x.isGraded() ? 1 : 0) + x.alternating() + (x.isEulerian() ? 1 : 0) + (x.isSimplicial() ? 1 : 0)
                + (x.isSimple() ? 1 : 0) + x.flags() + x.neighbours(1, true) + x.distance(1, 2, false)
                + x.step(1, 2, true) + x.diameter(false);
    }
}
