import java.util.Arrays;
import java.util.NoSuchElementException;

public final class FaceLattice {
    public static final int NONE = -1;

    private static final int MAX_POINTS = 8;
    private static final int MAX_FACETS = 10;
    private static final int MAX_SETS = 256;
    private static final int MAX_BYTES = 300;
    private static final int MAX_UNDO = 8;

    private final SetupText text = new SetupText();
    private final History history = new History();
    private final Lattice lattice = new Lattice();
    private final Graph graph = new Graph();
    private final Matching matching = new Matching();
    private final Incidence now = new Incidence();
    private final Incidence saved = new Incidence();
    // Changes are prepared here, so that one that is refused half-way leaves no trace.
    private final Incidence next = new Incidence();
    private boolean hasSaved = false;

    public FaceLattice() {
        lattice.build(now);
    }

    // Input

    public int append(int a, int b, int c, int d, int e) throws IllegalStateException {
        int added = SetupText.bytesIn(a) + SetupText.bytesIn(b) + SetupText.bytesIn(c)
                + SetupText.bytesIn(d) + SetupText.bytesIn(e);
        if (text.length + added > MAX_BYTES) {
            throw new IllegalStateException();
        }
        text.put(a);
        text.put(b);
        text.put(c);
        text.put(d);
        text.put(e);
        return text.length;
    }

    public int truncate(int length) throws IllegalArgumentException {
        if (length < 0 || length > text.length) {
            throw new IllegalArgumentException();
        }
        text.length = length;
        return length;
    }

    public int errorPosition() {
        return text.read(next);
    }

    public int load() throws IllegalArgumentException {
        if (text.read(next) != NONE) {
            throw new IllegalArgumentException();
        }
        text.length = 0;
        history.count = 0;
        hasSaved = false;
        replaceNow(next);
        return now.facets;
    }

    // Changes

    public boolean setIncident(int point, int facet, boolean incident) throws IndexOutOfBoundsException {
        checkPoint(point);
        checkFacet(facet);
        boolean before = now.has(facet, point);
        next.copyFrom(now);
        next.put(facet, point, incident);
        change();
        return before;
    }

    public int addFacet(int points) throws IllegalArgumentException, IllegalStateException {
        checkSet(points);
        if (now.facets >= MAX_FACETS) {
            throw new IllegalStateException();
        }
        next.copyFrom(now);
        next.add(points);
        change();
        return now.facets - 1;
    }

    public int removeFacet(int facet) throws IndexOutOfBoundsException {
        checkFacet(facet);
        int removed = now.sets[facet];
        next.copyFrom(now);
        next.remove(facet);
        change();
        return removed;
    }

    public int dual() throws IllegalStateException {
        if (now.facets < 1 || now.facets > MAX_POINTS) {
            throw new IllegalStateException();
        }
        next.clear(now.facets);
        for (int p = 0; p < now.points; p++) {
            next.add(now.holders(p));
        }
        change();
        return lattice.size;
    }

    public int pyramid() throws IllegalStateException {
        if (now.points >= MAX_POINTS || now.facets >= MAX_FACETS) {
            throw new IllegalStateException();
        }
        int apex = 1 << now.points;
        next.clear(now.points + 1);
        for (int f = 0; f < now.facets; f++) {
            next.add(now.sets[f] | apex);
        }
        next.add(now.allPoints());
        change();
        return lattice.size;
    }

    public int stack(int facet) throws IndexOutOfBoundsException, IllegalStateException {
        checkFacet(facet);
        int base = now.sets[facet];
        int sides = lattice.countCovers(base, false);
        if (sides == 0 || now.points >= MAX_POINTS || now.facets - 1 + sides > MAX_FACETS) {
            throw new IllegalStateException();
        }
        int apex = 1 << now.points;
        next.clear(now.points + 1);
        for (int f = 0; f < now.facets; f++) {
            if (f != facet) {
                next.add(now.sets[f]);
            }
        }
        for (int c = 0; c < lattice.size; c++) {
            if (lattice.isCover(lattice.sets[c], base)) {
                next.add(lattice.sets[c] | apex);
            }
        }
        change();
        return now.facets;
    }

    public int cutOff(int point) throws IndexOutOfBoundsException, IllegalStateException {
        checkPoint(point);
        graph.linkPoints(now, lattice);
        int ends = graph.nextTo[point];
        int kept = now.points - 1;
        int made = Integer.bitCount(ends);
        if (made == 0 || kept + made > MAX_POINTS || now.facets >= MAX_FACETS) {
            throw new IllegalStateException();
        }
        int others = now.allPoints() & ~(1 << point);
        next.clear(kept + made);
        for (int f = 0; f < now.facets; f++) {
            int set = now.sets[f];
            int cuts = now.has(f, point) ? Incidence.renumbered(set, ends) : 0;
            next.add(Incidence.renumbered(set, others) | cuts << kept);
        }
        next.add(((1 << made) - 1) << kept);
        change();
        return now.points;
    }

    public int keepFace(int face) throws IndexOutOfBoundsException, IllegalStateException {
        checkFace(face);
        int set = lattice.sets[face];
        if (set == 0 || lattice.countCovers(set, false) > MAX_FACETS) {
            throw new IllegalStateException();
        }
        next.clear(Integer.bitCount(set));
        for (int c = 0; c < lattice.size; c++) {
            if (lattice.isCover(lattice.sets[c], set)) {
                next.add(Incidence.renumbered(lattice.sets[c], set));
            }
        }
        change();
        return now.facets;
    }

    public int figure(int point) throws IndexOutOfBoundsException, IllegalStateException {
        checkPoint(point);
        int base = lattice.closed[1 << point];
        int points = lattice.countCovers(base, true);
        if (points == 0 || points > MAX_POINTS) {
            throw new IllegalStateException();
        }
        next.clear(points);
        for (int f = 0; f < now.facets; f++) {
            if (now.has(f, point)) {
                next.add(lattice.coversWithin(base, now.sets[f]));
            }
        }
        change();
        return now.points;
    }

    // History

    public int undo() throws IllegalStateException {
        if (history.count == 0) {
            throw new IllegalStateException();
        }
        replaceNow(history.takeLatest());
        return history.count;
    }

    public int undoCount() {
        return history.count;
    }

    public int save() {
        saved.copyFrom(now);
        hasSaved = true;
        return now.points;
    }

    public int restore() throws IllegalStateException {
        if (!hasSaved) {
            throw new IllegalStateException();
        }
        history.count = 0;
        replaceNow(saved);
        return now.points;
    }

    // Points and facets

    public int pointCount() {
        return now.points;
    }

    public int facetCount() {
        return now.facets;
    }

    public int facet(int facet) throws IndexOutOfBoundsException {
        checkFacet(facet);
        return now.sets[facet];
    }

    public int facetsOf(int point) throws IndexOutOfBoundsException {
        checkPoint(point);
        return now.holders(point);
    }

    public int closure(int points) throws IllegalArgumentException {
        checkSet(points);
        return lattice.closed[points];
    }

    // Faces

    public int faceCount() {
        return lattice.size;
    }

    public int face(int face) throws IndexOutOfBoundsException {
        checkFace(face);
        return lattice.sets[face];
    }

    public int indexOf(int points) {
        return now.isSet(points) ? lattice.numbers[points] : NONE;
    }

    public int rank(int face) throws IndexOutOfBoundsException {
        checkFace(face);
        return lattice.ranks[lattice.sets[face]];
    }

    public int height() {
        return lattice.top();
    }

    public int ofRank(int rank) throws IllegalArgumentException {
        if (rank < 0 || rank > lattice.top()) {
            throw new IllegalArgumentException();
        }
        return lattice.rankSizes[rank];
    }

    public int covers(int face, boolean up) throws IndexOutOfBoundsException {
        checkFace(face);
        return lattice.countCovers(lattice.sets[face], up);
    }

    public int cover(int face, boolean up, int index) throws IndexOutOfBoundsException {
        checkFace(face);
        int found = lattice.coverAt(lattice.sets[face], up, index);
        if (found == NONE) {
            throw new IndexOutOfBoundsException();
        }
        return found;
    }

    public int join(int face, int other) throws IndexOutOfBoundsException {
        checkFace(face);
        checkFace(other);
        return lattice.numbers[lattice.closed[lattice.sets[face] | lattice.sets[other]]];
    }

    public int meet(int face, int other) throws IndexOutOfBoundsException {
        checkFace(face);
        checkFace(other);
        return lattice.numbers[lattice.sets[face] & lattice.sets[other]];
    }

    public int between(int face, int other) throws IndexOutOfBoundsException {
        checkFace(face);
        checkFace(other);
        return lattice.countBetween(lattice.sets[face], lattice.sets[other]);
    }

    public int chains(int face, int other) throws IndexOutOfBoundsException {
        checkFace(face);
        checkFace(other);
        return lattice.countChains(lattice.sets[face], lattice.sets[other]);
    }

    public int mobius(int face, int other) throws IndexOutOfBoundsException {
        checkFace(face);
        checkFace(other);
        return lattice.mobiusNumber(lattice.sets[face], lattice.sets[other]);
    }

    // Kinds

    public boolean isGraded() {
        return lattice.graded();
    }

    public int alternating() {
        return lattice.evenMinusOdd();
    }

    public boolean isEulerian() {
        return lattice.graded() && lattice.mobiusAlternates();
    }

    public boolean isSimplicial() {
        return lattice.cubicBelow();
    }

    public boolean isSimple() {
        return lattice.cubicAbove();
    }

    public int flags() {
        return lattice.countChains(lattice.closed[0], now.allPoints());
    }

    // Paths

    public int neighbours(int point, boolean dual) throws IndexOutOfBoundsException {
        checkNode(point, dual);
        linkGraph(dual);
        return graph.nextTo[point];
    }

    public int distance(int point, int other, boolean dual) throws IndexOutOfBoundsException {
        checkNode(point, dual);
        checkNode(other, dual);
        linkGraph(dual);
        return graph.length(point, other);
    }

    public int step(int point, int other, boolean dual)
            throws IndexOutOfBoundsException, NoSuchElementException {
        checkNode(point, dual);
        checkNode(other, dual);
        linkGraph(dual);
        int first = graph.firstStep(point, other);
        if (first == NONE) {
            throw new NoSuchElementException();
        }
        return first;
    }

    public int diameter(boolean dual) throws NoSuchElementException {
        linkGraph(dual);
        int greatest = graph.greatestLength();
        if (greatest == NONE) {
            throw new NoSuchElementException();
        }
        return greatest;
    }

    // Types

    public int automorphisms() {
        return matching.countOnto(now);
    }

    public int orbit(int point) throws IndexOutOfBoundsException {
        checkPoint(point);
        return matching.imagesOnto(now, point);
    }

    public boolean isLike() throws IllegalStateException {
        if (!hasSaved) {
            throw new IllegalStateException();
        }
        return matching.find(now, saved);
    }

    public int image(int point)
            throws IndexOutOfBoundsException, IllegalStateException, NoSuchElementException {
        checkPoint(point);
        if (!hasSaved) {
            throw new IllegalStateException();
        }
        if (!matching.find(now, saved)) {
            throw new NoSuchElementException();
        }
        return matching.image[point];
    }

    private void change() {
        history.add(now);
        replaceNow(next);
    }

    private void replaceNow(Incidence other) {
        now.copyFrom(other);
        lattice.build(now);
    }

    private void linkGraph(boolean dual) {
        if (dual) {
            graph.linkFacets(now, lattice);
        } else {
            graph.linkPoints(now, lattice);
        }
    }

    private void checkPoint(int point) {
        if (point < 0 || point >= now.points) {
            throw new IndexOutOfBoundsException();
        }
    }

    private void checkFacet(int facet) {
        if (facet < 0 || facet >= now.facets) {
            throw new IndexOutOfBoundsException();
        }
    }

    private void checkNode(int node, boolean dual) {
        if (dual) {
            checkFacet(node);
        } else {
            checkPoint(node);
        }
    }

    private void checkFace(int face) {
        if (face < 0 || face >= lattice.size) {
            throw new IndexOutOfBoundsException();
        }
    }

    private void checkSet(int points) {
        if (!now.isSet(points)) {
            throw new IllegalArgumentException();
        }
    }

    // Which points are in which facets.
    private static final class Incidence {
        final int[] sets = new int[MAX_FACETS];
        int points = 1;
        int facets = 0;

        void copyFrom(Incidence other) {
            points = other.points;
            facets = other.facets;
            System.arraycopy(other.sets, 0, sets, 0, MAX_FACETS);
        }

        void clear(int newPoints) {
            points = newPoints;
            facets = 0;
        }

        void add(int set) {
            if (facets < MAX_FACETS) {
                sets[facets] = set;
                facets++;
            }
        }

        void remove(int facet) {
            for (int f = facet; f + 1 < facets; f++) {
                sets[f] = sets[f + 1];
            }
            facets--;
        }

        boolean has(int facet, int point) {
            return (sets[facet] >> point & 1) == 1;
        }

        void put(int facet, int point, boolean incident) {
            int bit = 1 << point;
            sets[facet] = incident ? sets[facet] | bit : sets[facet] & ~bit;
        }

        int allPoints() {
            return (1 << points) - 1;
        }

        boolean isSet(int set) {
            return (set & ~allPoints()) == 0;
        }

        int holders(int point) {
            int holders = 0;
            for (int f = 0; f < facets; f++) {
                if (has(f, point)) {
                    holders |= 1 << f;
                }
            }
            return holders;
        }

        int closureOf(int set) {
            int common = allPoints();
            for (int f = 0; f < facets; f++) {
                if ((set & ~sets[f]) == 0) {
                    common &= sets[f];
                }
            }
            return common;
        }

        // The points of kept get the numbers 0, 1 and so on; the others are left out.
        static int renumbered(int set, int kept) {
            int result = 0;
            int number = 0;
            for (int p = 0; p < MAX_POINTS; p++) {
                if ((kept >> p & 1) == 1) {
                    result |= (set >> p & 1) << number;
                    number++;
                }
            }
            return result;
        }
    }

    // The incidences before each of the latest changes, in a ring.
    private static final class History {
        private final Incidence[] ring = new Incidence[MAX_UNDO];
        private int oldest = 0;
        int count = 0;

        History() {
            for (int k = 0; k < MAX_UNDO; k++) {
                ring[k] = new Incidence();
            }
        }

        void add(Incidence before) {
            if (count == MAX_UNDO) {
                oldest = (oldest + 1) % MAX_UNDO;
                count--;
            }
            ring[(oldest + count) % MAX_UNDO].copyFrom(before);
            count++;
        }

        Incidence takeLatest() {
            if (count > 0) {
                count--;
            }
            return ring[(oldest + count) % MAX_UNDO];
        }
    }

    // The input buffer, and the reader of what it holds.
    private static final class SetupText {
        private static final int END = 0;
        private static final int WORD = 1;
        private static final int NUMBER = 2;
        private static final int SEMICOLON = 3;
        private static final int OTHER = 4;

        private static final int POINTS = 0;
        private static final int SIMPLEX = 1;
        private static final int CYCLE = 2;
        private static final int CUBE = 3;
        private static final int CROSS = 4;
        private static final int[] LEAST = {1, 2, 3, 1, 1};
        private static final int[] MOST = {8, 8, 8, 3, 3};

        private static final int MAX_DIGITS = 4;

        private final int[] bytes = new int[MAX_BYTES];
        int length = 0;
        private int kind = END;
        private int start = 0;
        private int end = 0;

        static int bytesIn(int word) {
            int found = 0;
            for (int shift = 24; shift >= 0; shift -= 8) {
                if ((word >>> shift & 255) != 0) {
                    found++;
                }
            }
            return found;
        }

        void put(int word) {
            for (int shift = 24; shift >= 0; shift -= 8) {
                int value = word >>> shift & 255;
                if (value != 0 && length < MAX_BYTES) {
                    bytes[length] = value;
                    length++;
                }
            }
        }

        int read(Incidence into) {
            end = 0;
            advance();
            if (!readShape(into)) {
                return start;
            }
            for (int k = 0; k < MAX_BYTES && kind == SEMICOLON; k++) {
                advance();
                if (!readFacet(into)) {
                    return start;
                }
            }
            return kind == END ? NONE : start;
        }

        private boolean readShape(Incidence into) {
            int shape = shapeHere();
            if (shape == NONE) {
                return false;
            }
            advance();
            int size = numberHere();
            if (size < LEAST[shape] || size > MOST[shape]) {
                return false;
            }
            lay(shape, size, into);
            advance();
            return true;
        }

        private boolean readFacet(Incidence into) {
            if (!isHere("facet") || into.facets >= MAX_FACETS) {
                return false;
            }
            advance();
            int set = 0;
            // One round more than there are points: that one can only find a point again.
            for (int k = 0; k <= MAX_POINTS && (set == 0 || kind == NUMBER); k++) {
                int point = numberHere();
                if (point < 0 || point >= into.points || (set >> point & 1) == 1) {
                    return false;
                }
                set |= 1 << point;
                advance();
            }
            into.add(set);
            return true;
        }

        private int shapeHere() {
            if (isHere("points")) {
                return POINTS;
            }
            if (isHere("simplex")) {
                return SIMPLEX;
            }
            if (isHere("cycle")) {
                return CYCLE;
            }
            if (isHere("cube")) {
                return CUBE;
            }
            return isHere("cross") ? CROSS : NONE;
        }

        private boolean isHere(String word) {
            if (kind != WORD || end - start != word.length()) {
                return false;
            }
            for (int k = 0; k < word.length(); k++) {
                if (bytes[start + k] != word.charAt(k)) {
                    return false;
                }
            }
            return true;
        }

        private int numberHere() {
            if (kind != NUMBER || end - start > MAX_DIGITS) {
                return NONE;
            }
            int value = 0;
            for (int k = start; k < end; k++) {
                value = 10 * value + bytes[k] - '0';
            }
            return value;
        }

        private void advance() {
            start = end;
            while (start < length && bytes[start] == ' ') {
                start++;
            }
            end = start;
            if (start >= length) {
                kind = END;
                return;
            }
            kind = kindOf(bytes[start]);
            end++;
            if (kind == WORD || kind == NUMBER) {
                while (end < length && kindOf(bytes[end]) == kind) {
                    end++;
                }
            }
        }

        private static int kindOf(int value) {
            if (value >= 'a' && value <= 'z') {
                return WORD;
            }
            if (value >= '0' && value <= '9') {
                return NUMBER;
            }
            return value == ';' ? SEMICOLON : OTHER;
        }

        private static void lay(int shape, int size, Incidence into) {
            switch (shape) {
                case SIMPLEX:
                    laySimplex(size, into);
                    break;
                case CYCLE:
                    layCycle(size, into);
                    break;
                case CUBE:
                    layCube(size, into);
                    break;
                case CROSS:
                    layCross(size, into);
                    break;
                default:
                    into.clear(size);
                    break;
            }
        }

        private static void laySimplex(int size, Incidence into) {
            into.clear(size);
            for (int k = 0; k < size; k++) {
                into.add(into.allPoints() & ~(1 << k));
            }
        }

        private static void layCycle(int size, Incidence into) {
            into.clear(size);
            for (int k = 0; k < size; k++) {
                int after = k + 1 < size ? k + 1 : 0;
                into.add(1 << k | 1 << after);
            }
        }

        private static void layCube(int size, Incidence into) {
            into.clear(1 << size);
            for (int i = 0; i < size; i++) {
                int ones = 0;
                for (int p = 0; p < into.points; p++) {
                    ones |= (p >> i & 1) << p;
                }
                into.add(into.allPoints() & ~ones);
                into.add(ones);
            }
        }

        private static void layCross(int size, Incidence into) {
            into.clear(2 * size);
            for (int s = 0; s < 1 << size; s++) {
                int set = 0;
                for (int i = 0; i < size; i++) {
                    set |= 1 << 2 * i + (s >> i & 1);
                }
                into.add(set);
            }
        }
    }

    // All faces of one incidence. Arrays "by set" have a set of points as their index.
    private static final class Lattice {
        final int[] closed = new int[MAX_SETS];       // by set: its closure
        final int[] ranks = new int[MAX_SETS];        // by set: the rank of a face
        final int[] numbers = new int[MAX_SETS];      // by set: the number of a face, or NONE
        final int[] sets = new int[MAX_SETS];         // by number: the points of a face
        final int[] rankSizes = new int[MAX_POINTS + 1];
        int size = 0;
        private final int[] tally = new int[MAX_SETS]; // by set: scratch of one call
        private int points = 1;
        private int all = 1;

        void build(Incidence from) {
            points = from.points;
            all = from.allPoints();
            for (int set = 0; set <= all; set++) {
                closed[set] = from.closureOf(set);
                ranks[set] = 0;
                numbers[set] = NONE;
            }
            rankFaces();
            numberFaces();
        }

        int top() {
            return ranks[all];
        }

        boolean isFace(int set) {
            return closed[set] == set;
        }

        // A set has a lower number than those that contain it, so its rank is final when its turn comes.
        private void rankFaces() {
            for (int set = 0; set <= all; set++) {
                for (int p = 0; p < points && isFace(set); p++) {
                    int above = closed[set | 1 << p];
                    if (above != set) {
                        ranks[above] = Math.max(ranks[above], ranks[set] + 1);
                    }
                }
            }
        }

        private void numberFaces() {
            size = 0;
            for (int rank = 0; rank <= MAX_POINTS; rank++) {
                int before = size;
                for (int set = 0; set <= all; set++) {
                    if (isFace(set) && ranks[set] == rank) {
                        sets[size] = set;
                        numbers[set] = size;
                        size++;
                    }
                }
                rankSizes[rank] = size - before;
            }
        }

        // Whether upper covers lower: any point more must already lead up to the whole of upper.
        boolean isCover(int lower, int upper) {
            int added = upper & ~lower;
            if (added == 0 || (lower & ~upper) != 0) {
                return false;
            }
            for (int p = 0; p < points; p++) {
                if ((added >> p & 1) == 1 && closed[lower | 1 << p] != upper) {
                    return false;
                }
            }
            return true;
        }

        private boolean isCoverInWay(int set, int other, boolean up) {
            return up ? isCover(set, other) : isCover(other, set);
        }

        // The cover of a face whose lowest new point is the given one, or NONE:
        // so each cover is met at one point only.
        private int coverBy(int set, int point) {
            int upper = closed[set | 1 << point];
            int added = upper & ~set;
            boolean lowest = (added & -added) == 1 << point;
            return lowest && isCover(set, upper) ? upper : NONE;
        }

        int countCovers(int set, boolean up) {
            int count = 0;
            for (int c = 0; c < size; c++) {
                if (isCoverInWay(set, sets[c], up)) {
                    count++;
                }
            }
            return count;
        }

        int coverAt(int set, boolean up, int index) {
            int before = 0;
            for (int c = 0; c < size; c++) {
                if (isCoverInWay(set, sets[c], up)) {
                    if (before == index) {
                        return c;
                    }
                    before++;
                }
            }
            return NONE;
        }

        // Bit k is set if the cover number k of the base, in the order of the faces, is within the limit.
        int coversWithin(int base, int limit) {
            int within = 0;
            int number = 0;
            for (int c = 0; c < size; c++) {
                if (isCover(base, sets[c])) {
                    if ((sets[c] & ~limit) == 0) {
                        within |= 1 << number;
                    }
                    number++;
                }
            }
            return within;
        }

        // A gap is the set of points between two faces.
        private static int partsOf(int gap) {
            return 1 << Integer.bitCount(gap);
        }

        // In rising order of the parts, so that a part comes later than all of its own parts.
        private static int partAfter(int part, int gap) {
            return (part - gap) & gap;
        }

        int countBetween(int lower, int upper) {
            if ((lower & ~upper) != 0) {
                return 0;
            }
            int gap = upper & ~lower;
            int parts = partsOf(gap);
            int part = 0;
            int count = 0;
            for (int k = 0; k < parts; k++) {
                if (isFace(lower | part)) {
                    count++;
                }
                part = partAfter(part, gap);
            }
            return count;
        }

        private void clearTally(int lower, int upper) {
            int gap = upper & ~lower;
            int parts = partsOf(gap);
            int part = 0;
            for (int k = 0; k < parts; k++) {
                tally[lower | part] = 0;
                part = partAfter(part, gap);
            }
        }

        int countChains(int lower, int upper) {
            if ((lower & ~upper) != 0) {
                return 0;
            }
            clearTally(lower, upper);
            tally[lower] = 1;
            int gap = upper & ~lower;
            int parts = partsOf(gap);
            int part = 0;
            for (int k = 0; k < parts; k++) {
                if (isFace(lower | part)) {
                    passOn(lower | part, upper);
                }
                part = partAfter(part, gap);
            }
            return tally[upper];
        }

        // Adds the chains that have come to a face to each of its covers within upper.
        private void passOn(int set, int upper) {
            for (int p = 0; p < points; p++) {
                int above = (upper >> p & 1) == 1 ? coverBy(set, p) : NONE;
                if (above != NONE) {
                    tally[above] += tally[set];
                }
            }
        }

        int mobiusNumber(int lower, int upper) {
            if ((lower & ~upper) != 0) {
                return 0;
            }
            tallyMobius(lower, upper);
            return tally[upper];
        }

        // By Rota's theorem on closures the Moebius number of two faces is the sum of -1 to the power
        // of the number of added points, over all ways to add points to the lower face so that their
        // closure is the upper one: far fewer steps than the sum over all faces between.
        private void tallyMobius(int lower, int upper) {
            clearTally(lower, upper);
            int gap = upper & ~lower;
            int parts = partsOf(gap);
            int part = 0;
            for (int k = 0; k < parts; k++) {
                tally[closed[lower | part]] += signOf(Integer.bitCount(part));
                part = partAfter(part, gap);
            }
        }

        private static int signOf(int count) {
            return (count & 1) == 0 ? 1 : -1;
        }

        boolean graded() {
            for (int c = 0; c < size; c++) {
                for (int p = 0; p < points; p++) {
                    int above = coverBy(sets[c], p);
                    if (above != NONE && ranks[above] != ranks[sets[c]] + 1) {
                        return false;
                    }
                }
            }
            return true;
        }

        boolean mobiusAlternates() {
            for (int c = 0; c < size; c++) {
                tallyMobius(sets[c], all);
                if (!tallyAlternates(sets[c])) {
                    return false;
                }
            }
            return true;
        }

        private boolean tallyAlternates(int lower) {
            int gap = all & ~lower;
            int parts = partsOf(gap);
            int part = 0;
            for (int k = 0; k < parts; k++) {
                int set = lower | part;
                if (isFace(set) && tally[set] != signOf(ranks[set] - ranks[lower])) {
                    return false;
                }
                part = partAfter(part, gap);
            }
            return true;
        }

        int evenMinusOdd() {
            int difference = 0;
            for (int rank = 0; rank <= MAX_POINTS; rank++) {
                difference += signOf(rank) * rankSizes[rank];
            }
            return difference;
        }

        boolean cubicBelow() {
            for (int c = 0; c + 1 < size; c++) {
                if (countBetween(sets[0], sets[c]) != 1 << ranks[sets[c]]) {
                    return false;
                }
            }
            return true;
        }

        boolean cubicAbove() {
            for (int c = 1; c < size; c++) {
                if (countBetween(sets[c], all) != 1 << top() - ranks[sets[c]]) {
                    return false;
                }
            }
            return true;
        }
    }

    // Neighbours and paths of points, or of facets: its nodes.
    private static final class Graph {
        final int[] nextTo = new int[MAX_FACETS];
        private int size = 0;

        void linkPoints(Incidence from, Lattice faces) {
            clear(from.points);
            for (int p = 0; p < size; p++) {
                for (int q = 0; q < p; q++) {
                    int both = 1 << p | 1 << q;
                    if (faces.isFace(both)) {
                        link(p, q);
                    }
                }
            }
        }

        void linkFacets(Incidence from, Lattice faces) {
            clear(from.facets);
            for (int f = 0; f < size; f++) {
                for (int g = 0; g < f; g++) {
                    int ridge = from.sets[f] & from.sets[g];
                    if (from.sets[f] != from.sets[g]
                            && faces.isCover(ridge, from.sets[f]) && faces.isCover(ridge, from.sets[g])) {
                        link(f, g);
                    }
                }
            }
        }

        private void clear(int nodes) {
            size = nodes;
            Arrays.fill(nextTo, 0);
        }

        private void link(int node, int other) {
            nextTo[node] |= 1 << other;
            nextTo[other] |= 1 << node;
        }

        int length(int from, int to) {
            int reached = 1 << from;
            for (int steps = 0; steps < size; steps++) {
                if ((reached >> to & 1) == 1) {
                    return steps;
                }
                reached |= nextToAny(reached);
            }
            return NONE;
        }

        private int nextToAny(int nodes) {
            int found = 0;
            for (int n = 0; n < size; n++) {
                if ((nodes >> n & 1) == 1) {
                    found |= nextTo[n];
                }
            }
            return found;
        }

        int firstStep(int from, int to) {
            int rest = length(from, to) - 1;
            for (int n = 0; n < size && rest >= 0; n++) {
                if ((nextTo[from] >> n & 1) == 1 && length(n, to) == rest) {
                    return n;
                }
            }
            return NONE;
        }

        int greatestLength() {
            int greatest = size > 0 ? 0 : NONE;
            for (int n = 0; n < size; n++) {
                for (int m = 0; m < n; m++) {
                    int length = length(n, m);
                    if (length == NONE) {
                        return NONE;
                    }
                    greatest = Math.max(greatest, length);
                }
            }
            return greatest;
        }
    }

    // Isomorphisms, searched point by point, lowest images first.
    private static final class Matching {
        private static final int SIGNATURE_BITS = 4;

        final int[] image = new int[MAX_POINTS];
        private final int[] order = new int[MAX_POINTS];
        private final int[] allowed = new int[MAX_POINTS];
        private final long[] signatures = new long[MAX_POINTS];
        private final long[] targetSignatures = new long[MAX_POINTS];
        private final int[] traces = new int[MAX_FACETS];
        private final int[] targetTraces = new int[MAX_FACETS];
        private final int[] tally = new int[MAX_SETS];

        boolean find(Incidence from, Incidence onto) {
            begin(from, onto, 0);
            return signaturesMatch(from.points) && search(from, onto);
        }

        // The images of point 0, times those of point 1 if 0 stays, and so on:
        // so none of the up to 40320 automorphisms needs to be met.
        int countOnto(Incidence self) {
            begin(self, self, 0);
            int count = 1;
            for (int p = 0; p < self.points; p++) {
                count *= Integer.bitCount(imagesOf(p, self));
                allowed[p] = 1 << p;
            }
            return count;
        }

        int imagesOnto(Incidence self, int point) {
            begin(self, self, point);
            return imagesOf(point, self);
        }

        // The first point is the one that is mapped first: a point with few images is best met early.
        private void begin(Incidence from, Incidence onto, int first) {
            sign(from, signatures);
            sign(onto, targetSignatures);
            for (int p = 0; p < from.points; p++) {
                order[p] = p == 0 ? first : p <= first ? p - 1 : p;
                allowed[p] = alike(signatures[p], targetSignatures, onto.points);
            }
        }

        // A point's signature tells how many facets of each size contain it.
        private static void sign(Incidence incidence, long[] into) {
            for (int p = 0; p < incidence.points; p++) {
                into[p] = 0;
                for (int f = 0; f < incidence.facets; f++) {
                    if (incidence.has(f, p)) {
                        into[p] += 1L << SIGNATURE_BITS * Integer.bitCount(incidence.sets[f]);
                    }
                }
            }
        }

        private static int alike(long signature, long[] among, int points) {
            int found = 0;
            for (int p = 0; p < points; p++) {
                if (among[p] == signature) {
                    found |= 1 << p;
                }
            }
            return found;
        }

        // Seen before the search, since it would meet the last points' want of images again and again.
        private boolean signaturesMatch(int points) {
            for (int p = 0; p < points; p++) {
                int like = alike(signatures[p], signatures, points);
                if (Integer.bitCount(like) != Integer.bitCount(allowed[p])) {
                    return false;
                }
            }
            return true;
        }

        private int imagesOf(int point, Incidence self) {
            int candidates = allowed[point];
            int images = 0;
            for (int t = 0; t < self.points; t++) {
                allowed[point] = candidates & 1 << t;
                if (allowed[point] != 0 && search(self, self)) {
                    images |= 1 << t;
                }
            }
            return images;
        }

        private boolean search(Incidence from, Incidence onto) {
            return from.points == onto.points && from.facets == onto.facets && extend(from, onto, 0, 0);
        }

        private boolean extend(Incidence from, Incidence onto, int mapped, int used) {
            if (mapped >= from.points) {
                return true;
            }
            for (int t = 0; t < onto.points; t++) {
                if (goesTo(t, from, onto, mapped, used)) {
                    return true;
                }
            }
            return false;
        }

        private boolean goesTo(int target, Incidence from, Incidence onto, int mapped, int used) {
            int bit = 1 << target;
            if ((allowed[order[mapped]] & ~used & bit) == 0) {
                return false;
            }
            image[mapped] = target;
            return agrees(from, onto, mapped + 1) && extend(from, onto, mapped + 1, used | bit);
        }

        // Whether the facets, cut down to the points mapped so far, go to each other, each as often.
        // There are as many facets on both sides, so it is enough to look at the traces of one side.
        private boolean agrees(Incidence from, Incidence onto, int mapped) {
            for (int f = 0; f < from.facets; f++) {
                traces[f] = trace(from.sets[f], order, mapped);
                targetTraces[f] = trace(onto.sets[f], image, mapped);
                tally[traces[f]] = 0;
                tally[targetTraces[f]] = 0;
            }
            for (int f = 0; f < from.facets; f++) {
                tally[traces[f]]++;
                tally[targetTraces[f]]--;
            }
            for (int f = 0; f < from.facets; f++) {
                if (tally[traces[f]] != 0) {
                    return false;
                }
            }
            return true;
        }

        private static int trace(int set, int[] points, int count) {
            int trace = 0;
            for (int k = 0; k < count; k++) {
                trace |= (set >> points[k] & 1) << k;
            }
            return trace;
        }
    }
}
