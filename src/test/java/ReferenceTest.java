import java.lang.reflect.InvocationTargetException;
import java.lang.reflect.Method;
import java.util.ArrayDeque;
import java.util.ArrayList;
import java.util.Collections;
import java.util.List;
import java.util.NoSuchElementException;
import java.util.Objects;
import java.util.regex.Matcher;
import java.util.regex.Pattern;

/**
 * Long runs of calls, made by a counter alone, on the class and on a slow model that follows the words
 * of the document; every answer and every exception must be the same.
 */
public final class ReferenceTest {
    private static final int RUNS = 600;
    private static final int CALLS = 512;
    private static final String[] WORDS = {"points", "simplex", "cycle", "cube", "cross", "facet"};

    private static int wrong = 0;
    private static long seed = 1;

    public static void main(String[] args) throws Exception {
        long calls = 0;
        for (int run = 0; run < RUNS && wrong < 20; run++) {
            calls += new Run(run).play();
        }
        checkTexts();
        System.out.println(calls + " calls compared with the model, " + wrong + " wrong");
        if (wrong != 0) {
            System.exit(1);
        }
    }

    private static int below(int bound) {
        seed = seed * 6364136223846793005L + 1442695040888963407L;
        return (int) Long.remainderUnsigned(seed >>> 33, bound);
    }

    private static boolean oneIn(int bound) {
        return below(bound) == 0;
    }

    // Texts

    private static String text() {
        StringBuilder text = new StringBuilder();
        String shape = WORDS[oneIn(40) ? 5 : below(5)];
        int most = shape.startsWith("c") && !shape.equals("cycle") ? 3 : 8;
        int least = shape.equals("cycle") ? 3 : shape.equals("simplex") ? 2 : 1;
        int size = oneIn(15) ? below(11) : least + below(most - least + 1);
        text.append(gap()).append(shape).append(gap()).append(zeros()).append(size).append(gap());
        int facets = below(oneIn(5) ? 12 : 5);
        for (int k = 0; k < facets; k++) {
            text.append(';').append(gap()).append("facet").append(gap());
            int points = oneIn(20) ? 0 : 1 + below(oneIn(4) ? 8 : 3);
            List<Integer> order = new ArrayList<>();
            for (int p = 0; p < 8; p++) {
                order.add(below(order.size() + 1), p);
            }
            for (int j = 0; j < 8 && points > 0 && text.length() < 290; j++) {
                int point = oneIn(200) ? below(12) : order.get(j);
                if (point >= size && !oneIn(60)) {
                    continue;
                }
                points--;
                text.append(text.charAt(text.length() - 1) <= '9' ? " " : "").append(zeros()).append(point).append(gap());
            }
        }
        if (oneIn(7)) {
            int at = below(text.length() + 1);
            String more = " ;;a0az{`/:9@Z\n\u0001\u00e9\u00ff facet points";
            int sign = below(more.length());
            text.insert(at, more.charAt(sign));
        }
        if (oneIn(12)) {
            text.deleteCharAt(below(text.length()));
        }
        if (oneIn(12)) {
            text.setLength(below(text.length() + 1));
        }
        return text.length() > 300 ? text.substring(0, 300) : text.toString();
    }

    private static String gap() {
        return oneIn(4) ? " ".repeat(1 + below(3)) : oneIn(2) ? " " : "";
    }

    private static String zeros() {
        return oneIn(10) ? "0".repeat(below(oneIn(8) ? 5 : 4)) : "";
    }

    private static int[] words(String text, int from) {
        int[] words = new int[5];
        for (int k = 0; k < 20 && from + k < text.length(); k++) {
            words[k / 4] |= text.charAt(from + k) << 24 - 8 * (k % 4);
        }
        return words;
    }

    private static void checkTexts() {
        for (int k = 0; k < 60000; k++) {
            String text = text();
            FaceLattice x = new FaceLattice();
            for (int from = 0; from < text.length(); from += 20) {
                int[] w = words(text, from);
                x.append(w[0], w[1], w[2], w[3], w[4]);
            }
            Model m = new Model();
            m.buffer.append(text);
            if (x.errorPosition() != m.errorPosition()) {
                wrong++;
                System.out.println("text \"" + text + "\": error position " + x.errorPosition()
                        + ", due is " + m.errorPosition());
            }
        }
    }

    // Runs

    private static final class Run {
        private final int number;
        private final FaceLattice x = new FaceLattice();
        private final Model m = new Model();
        private final int changesIn100;
        private int calls = 0;
        private boolean ok = true;

        Run(int number) {
            this.number = number;
            this.changesIn100 = 3 + below(40);
        }

        int play() throws Exception {
            if (!oneIn(6)) {
                loadText();
            }
            while (calls < CALLS - 40 && ok) {
                if (oneIn(60)) {
                    loadText();
                } else if (below(100) < changesIn100) {
                    changeOnce();
                } else if (oneIn(12)) {
                    historyOnce();
                } else {
                    askOnce();
                }
            }
            return calls;
        }

        private void loadText() throws Exception {
            String text = text();
            if (oneIn(15)) {
                for (int k = below(10); k < 16; k++) {
                    both("append", 0x20202020, 0x20202020, 0x20202020, 0x20202020, 0x20202020);
                }
            }
            both("truncate", oneIn(20) ? below(320) - 5 : 0);
            for (int from = 0; from < text.length(); from += 20) {
                int[] w = words(text, from);
                both("append", w[0], w[1], w[2], w[3], w[4]);
            }
            both("errorPosition");
            both("load");
            both("append", 0, 0, 0, 0, 0);
        }

        private int point() {
            return oneIn(25) ? below(14) - 3 : below(m.n);
        }

        private int facet() {
            return oneIn(25) || m.facets.isEmpty() ? below(14) - 3 : below(m.facets.size());
        }

        private int node(boolean dual) {
            return dual ? facet() : point();
        }

        private int face() {
            int faces = m.faces().size();
            return oneIn(25) ? below(faces + 6) - 3 : below(faces);
        }

        private int set() {
            return oneIn(25) ? below(2000) - 1000 : below(1 << m.n);
        }

        private void changeOnce() throws Exception {
            switch (below(13)) {
                case 0: case 1: case 2:
                    both("setIncident", point(), facet(), oneIn(2));
                    break;
                case 3: case 4:
                    both("addFacet", set());
                    break;
                case 5: both("removeFacet", facet()); break;
                case 6: both("dual"); break;
                case 7: case 8: both("pyramid"); break;
                case 9: both("stack", facet()); break;
                case 10: both("cutOff", point()); break;
                case 11: both(oneIn(4) ? "keepFace" : "stack", face()); break;
                default:
                    if (oneIn(3)) {
                        both("figure", point());
                    } else {
                        both("cutOff", point());
                    }
                    break;
            }
            compareAll();
        }

        private void historyOnce() throws Exception {
            switch (below(5)) {
                case 0: case 1: both("undo"); break;
                case 2: both("undoCount"); break;
                case 3: both("save"); break;
                default: both("restore"); break;
            }
            compareAll();
        }

        private void askOnce() throws Exception {
            boolean way = oneIn(2);
            switch (below(33)) {
                case 0: both("facet", facet()); break;
                case 1: both("facetsOf", point()); break;
                case 2: both("closure", set()); break;
                case 3: both("faceCount"); break;
                case 4: both("face", face()); break;
                case 5: both("indexOf", set()); break;
                case 6: both("rank", face()); break;
                case 7: both("height"); break;
                case 8: both("ofRank", below(11) - 1); break;
                case 9: both("covers", face(), way); break;
                case 10: both("cover", face(), way, below(6) - 1); break;
                case 11: both("join", face(), face()); break;
                case 12: both("meet", face(), face()); break;
                case 13: both("between", face(), face()); break;
                case 14: both("chains", face(), face()); break;
                case 15: both("mobius", face(), face()); break;
                case 16: both("chains", oneIn(2) ? 0 : face(), m.faces().size() - 1); break;
                case 17: both("mobius", oneIn(2) ? 0 : face(), m.faces().size() - 1); break;
                case 18: both("isGraded"); break;
                case 19: both("alternating"); break;
                case 20: both("isEulerian"); break;
                case 21: both("isSimplicial"); break;
                case 22: both("isSimple"); break;
                case 23: both("flags"); break;
                case 24: both("neighbours", node(way), way); break;
                case 25: both("distance", node(way), node(way), way); break;
                case 26: both("step", node(way), node(way), way); break;
                case 27: both("diameter", way); break;
                case 28: both("isLike"); break;
                case 29: both("image", point()); break;
                case 30: both(oneIn(4) ? "automorphisms" : "isEulerian"); break;
                case 31:
                    if (oneIn(4)) {
                        both("orbit", point());
                    }
                    break;
                default: both("errorPosition"); break;
            }
        }

        /** The whole state that can be seen; these calls are not counted as calls of the run. */
        private void compareAll() {
            boolean same = x.pointCount() == m.n && x.facetCount() == m.facets.size()
                    && x.undoCount() == m.past.size() && x.faceCount() == m.faces().size();
            for (int f = 0; same && f < m.facets.size(); f++) {
                same = x.facet(f) == m.facets.get(f);
            }
            for (int c = 0; same && c < m.faces().size(); c++) {
                same = x.face(c) == m.face(c) && x.rank(c) == m.rank(c);
            }
            if (!same) {
                ok = false;
                wrong++;
                System.out.println("run " + number + ", call " + calls + ": another state than the model");
            }
        }

        private void both(String name, Object... args) throws Exception {
            calls++;
            String got = answer(x, name, args);
            String want = answer(m, name, args);
            if (ok && !Objects.equals(got, want)) {
                ok = false;
                wrong++;
                System.out.println("run " + number + ", call " + calls + ": " + name
                        + List.of(args) + " answered " + got + ", due is " + want);
            }
        }

        private static String answer(Object object, String name, Object[] args) throws Exception {
            for (Method method : object.getClass().getDeclaredMethods()) {
                if (method.getName().equals(name) && method.getParameterCount() == args.length) {
                    try {
                        return String.valueOf(method.invoke(object, args));
                    } catch (InvocationTargetException e) {
                        return e.getCause().getClass().getName();
                    }
                }
            }
            throw new IllegalStateException("no method " + name);
        }
    }

    // The model

    private static final class State {
        final int n;
        final List<Integer> facets;

        State(int n, List<Integer> facets) {
            this.n = n;
            this.facets = List.copyOf(facets);
        }
    }

    private static final class Model {
        private static final Pattern TOKEN = Pattern.compile("[a-z]+|[0-9]+|[^ ]", Pattern.DOTALL);
        int n = 1;
        List<Integer> facets = new ArrayList<>();
        final StringBuilder buffer = new StringBuilder();
        final ArrayDeque<State> past = new ArrayDeque<>();
        State copy = null;
        private List<Integer> faces = null;
        private int[] ranks = null;

        int all() {
            return (1 << n) - 1;
        }

        static boolean within(int a, int b) {
            return (a | b) == b;
        }

        static List<Integer> elements(int set) {
            List<Integer> found = new ArrayList<>();
            for (int k = 0; k < 31; k++) {
                if ((set & 1 << k) != 0) {
                    found.add(k);
                }
            }
            return found;
        }

        private int close(int set) {
            int result = all();
            for (int facet : facets) {
                if (within(set, facet)) {
                    result &= facet;
                }
            }
            return result;
        }

        private boolean isCover(int low, int high) {
            if (low == high || !within(low, high)) {
                return false;
            }
            for (int c : faces()) {
                if (c != low && c != high && within(low, c) && within(c, high)) {
                    return false;
                }
            }
            return true;
        }

        List<Integer> faces() {
            if (faces == null) {
                faces = new ArrayList<>();
                ranks = new int[256];
                for (int set = 0; set <= all(); set++) {
                    if (close(set) == set) {
                        faces.add(set);
                    }
                }
                List<Integer> bySize = new ArrayList<>(faces);
                bySize.sort((a, b) -> Integer.bitCount(a) - Integer.bitCount(b));
                for (int b : bySize) {
                    ranks[b] = 0;
                    for (int a : bySize) {
                        if (isCover(a, b)) {
                            ranks[b] = Math.max(ranks[b], 1 + ranks[a]);
                        }
                    }
                }
                faces.sort((a, b) -> ranks[a] != ranks[b] ? ranks[a] - ranks[b] : a - b);
            }
            return faces;
        }

        private void become(int newN, List<Integer> newFacets) {
            n = newN;
            facets = new ArrayList<>(newFacets);
            faces = null;
        }

        private void change(int newN, List<Integer> newFacets) {
            past.addLast(new State(n, facets));
            if (past.size() > 8) {
                past.removeFirst();
            }
            become(newN, newFacets);
        }

        private void point(int p) {
            if (p < 0 || p >= n) {
                throw new IndexOutOfBoundsException();
            }
        }

        private void facetNumber(int f) {
            if (f < 0 || f >= facets.size()) {
                throw new IndexOutOfBoundsException();
            }
        }

        private int set(int c) {
            if (c < 0 || c >= faces().size()) {
                throw new IndexOutOfBoundsException();
            }
            return faces().get(c);
        }

        private static void legal(boolean condition) {
            if (!condition) {
                throw new IllegalStateException();
            }
        }

        // Input

        public int append(int a, int b, int c, int d, int e) {
            StringBuilder more = new StringBuilder();
            for (int w : new int[] {a, b, c, d, e}) {
                for (int k = 3; k >= 0; k--) {
                    int value = w >> 8 * k & 255;
                    if (value != 0) {
                        more.append((char) value);
                    }
                }
            }
            legal(buffer.length() + more.length() <= 300);
            return buffer.append(more).length();
        }

        public int truncate(int length) {
            if (length < 0 || length > buffer.length()) {
                throw new IllegalArgumentException();
            }
            buffer.setLength(length);
            return length;
        }

        private int readN = 0;
        private List<Integer> readFacets = null;

        public int errorPosition() {
            String text = buffer.toString();
            List<String> tokens = new ArrayList<>();
            List<Integer> starts = new ArrayList<>();
            Matcher matcher = TOKEN.matcher(text);
            while (matcher.find()) {
                tokens.add(matcher.group());
                starts.add(matcher.start());
            }
            starts.add(text.length());
            int accepted = accepted(tokens);
            return accepted < 0 ? -1 : starts.get(accepted);
        }

        /** The number of the token that is refused, or -1. */
        private int accepted(List<String> tokens) {
            readFacets = new ArrayList<>();
            int k = 0;
            if (k == tokens.size()) {
                return k;
            }
            String word = tokens.get(k);
            int least;
            int most;
            switch (word) {
                case "points": least = 1; most = 8; break;
                case "simplex": least = 2; most = 8; break;
                case "cycle": least = 3; most = 8; break;
                case "cube": case "cross": least = 1; most = 3; break;
                default: return k;
            }
            k++;
            if (k == tokens.size() || !isNumber(tokens.get(k), least, most)) {
                return k;
            }
            shape(word, Integer.parseInt(tokens.get(k)));
            k++;
            while (k < tokens.size()) {
                if (!tokens.get(k).equals(";")) {
                    return k;
                }
                k++;
                if (k == tokens.size() || !tokens.get(k).equals("facet") || readFacets.size() == 10) {
                    return k;
                }
                k++;
                List<Integer> facet = new ArrayList<>();
                while (k < tokens.size() && isNumber(tokens.get(k), 0, readN - 1)
                        && !facet.contains(Integer.parseInt(tokens.get(k)))) {
                    facet.add(Integer.parseInt(tokens.get(k)));
                    k++;
                }
                if (facet.isEmpty()) {
                    return k;
                }
                int set = 0;
                for (int p : facet) {
                    set |= 1 << p;
                }
                readFacets.add(set);
            }
            return -1;
        }

        private static boolean isNumber(String token, int least, int most) {
            if (!token.matches("[0-9]{1,4}")) {
                return false;
            }
            int value = Integer.parseInt(token);
            return value >= least && value <= most;
        }

        private void shape(String word, int size) {
            readN = word.equals("cube") ? 1 << size : word.equals("cross") ? 2 * size : size;
            if (word.equals("simplex")) {
                for (int k = 0; k < size; k++) {
                    readFacets.add((1 << size) - 1 - (1 << k));
                }
            } else if (word.equals("cycle")) {
                for (int k = 0; k < size; k++) {
                    readFacets.add((1 << k) + (1 << (k + 1) % size));
                }
            } else if (word.equals("cube")) {
                for (int f = 0; f < 2 * size; f++) {
                    int set = 0;
                    for (int p = 0; p < readN; p++) {
                        if (((p & 1 << f / 2) != 0) == (f % 2 == 1)) {
                            set |= 1 << p;
                        }
                    }
                    readFacets.add(set);
                }
            } else if (word.equals("cross")) {
                for (int s = 0; s < 1 << size; s++) {
                    int set = 0;
                    for (int i = 0; i < size; i++) {
                        set |= 1 << 2 * i + ((s & 1 << i) != 0 ? 1 : 0);
                    }
                    readFacets.add(set);
                }
            }
        }

        public int load() {
            if (errorPosition() != -1) {
                throw new IllegalArgumentException();
            }
            buffer.setLength(0);
            past.clear();
            copy = null;
            become(readN, readFacets);
            return facets.size();
        }

        // Changes

        public boolean setIncident(int p, int f, boolean incident) {
            point(p);
            facetNumber(f);
            List<Integer> made = new ArrayList<>(facets);
            boolean before = (made.get(f) & 1 << p) != 0;
            if (before != incident) {
                made.set(f, made.get(f) ^ 1 << p);
            }
            change(n, made);
            return before;
        }

        public int addFacet(int points) {
            if (points < 0 || points > all()) {
                throw new IllegalArgumentException();
            }
            legal(facets.size() < 10);
            List<Integer> made = new ArrayList<>(facets);
            made.add(points);
            change(n, made);
            return made.size() - 1;
        }

        public int removeFacet(int f) {
            facetNumber(f);
            List<Integer> made = new ArrayList<>(facets);
            int removed = made.remove(f);
            change(n, made);
            return removed;
        }

        public int dual() {
            legal(!facets.isEmpty() && facets.size() <= 8);
            List<Integer> made = new ArrayList<>();
            for (int p = 0; p < n; p++) {
                made.add(facetsOf(p));
            }
            change(facets.size(), made);
            return faces().size();
        }

        public int pyramid() {
            legal(n < 8 && facets.size() < 10);
            List<Integer> made = new ArrayList<>();
            for (int facet : facets) {
                made.add(facet + (1 << n));
            }
            made.add(all());
            change(n + 1, made);
            return faces().size();
        }

        public int stack(int f) {
            facetNumber(f);
            List<Integer> made = new ArrayList<>(facets);
            int set = made.remove(f);
            boolean some = false;
            for (int c : faces()) {
                if (isCover(c, set)) {
                    made.add(c + (1 << n));
                    some = true;
                }
            }
            legal(some && n < 8 && made.size() <= 10);
            change(n + 1, made);
            return made.size();
        }

        public int cutOff(int p) {
            point(p);
            List<Integer> near = elements(neighbours(p, false));
            legal(!near.isEmpty() && n - 1 + near.size() <= 8 && facets.size() < 10);
            List<Integer> made = new ArrayList<>();
            for (int facet : facets) {
                int set = 0;
                for (int q : elements(facet)) {
                    if (q != p) {
                        set |= 1 << (q < p ? q : q - 1);
                    }
                }
                for (int k = 0; k < near.size(); k++) {
                    if (elements(facet).contains(p) && elements(facet).contains(near.get(k))) {
                        set |= 1 << n - 1 + k;
                    }
                }
                made.add(set);
            }
            int last = 0;
            for (int k = 0; k < near.size(); k++) {
                last |= 1 << n - 1 + k;
            }
            made.add(last);
            change(n - 1 + near.size(), made);
            return n;
        }

        public int keepFace(int c) {
            int set = set(c);
            List<Integer> kept = elements(set);
            List<Integer> made = new ArrayList<>();
            for (int b : faces()) {
                if (isCover(b, set)) {
                    int facet = 0;
                    for (int p : elements(b)) {
                        facet |= 1 << kept.indexOf(p);
                    }
                    made.add(facet);
                }
            }
            legal(set != 0 && made.size() <= 10);
            change(kept.size(), made);
            return made.size();
        }

        public int figure(int p) {
            point(p);
            List<Integer> above = new ArrayList<>();
            for (int c : faces()) {
                if (isCover(close(1 << p), c)) {
                    above.add(c);
                }
            }
            legal(!above.isEmpty() && above.size() <= 8);
            List<Integer> made = new ArrayList<>();
            for (int facet : facets) {
                if (within(1 << p, facet)) {
                    int set = 0;
                    for (int k = 0; k < above.size(); k++) {
                        if (within(above.get(k), facet)) {
                            set |= 1 << k;
                        }
                    }
                    made.add(set);
                }
            }
            change(above.size(), made);
            return n;
        }

        // History

        public int undo() {
            legal(!past.isEmpty());
            State state = past.removeLast();
            become(state.n, state.facets);
            return past.size();
        }

        public int undoCount() {
            return past.size();
        }

        public int save() {
            copy = new State(n, facets);
            return n;
        }

        public int restore() {
            legal(copy != null);
            past.clear();
            become(copy.n, copy.facets);
            return n;
        }

        // Points, facets, faces

        public int facet(int f) {
            facetNumber(f);
            return facets.get(f);
        }

        public int facetsOf(int p) {
            point(p);
            int set = 0;
            for (int f = 0; f < facets.size(); f++) {
                if ((facets.get(f) & 1 << p) != 0) {
                    set |= 1 << f;
                }
            }
            return set;
        }

        public int closure(int points) {
            if (points < 0 || points > all()) {
                throw new IllegalArgumentException();
            }
            return close(points);
        }

        public int faceCount() {
            return faces().size();
        }

        public int face(int c) {
            return set(c);
        }

        public int indexOf(int points) {
            return faces().indexOf(points);
        }

        public int rank(int c) {
            return ranks[set(c)];
        }

        public int height() {
            return rank(faces().size() - 1);
        }

        public int ofRank(int rank) {
            if (rank < 0 || rank > height()) {
                throw new IllegalArgumentException();
            }
            int count = 0;
            for (int c : faces()) {
                count += ranks[c] == rank ? 1 : 0;
            }
            return count;
        }

        private List<Integer> coverList(int c, boolean up) {
            int set = set(c);
            List<Integer> found = new ArrayList<>();
            for (int d = 0; d < faces().size(); d++) {
                if (up ? isCover(set, set(d)) : isCover(set(d), set)) {
                    found.add(d);
                }
            }
            return found;
        }

        public int covers(int c, boolean up) {
            return coverList(c, up).size();
        }

        public int cover(int c, boolean up, int index) {
            List<Integer> found = coverList(c, up);
            if (index < 0 || index >= found.size()) {
                throw new IndexOutOfBoundsException();
            }
            return found.get(index);
        }

        public int join(int c, int d) {
            int a = set(c);
            int b = set(d);
            int best = all();
            for (int f : faces()) {
                if (within(a, f) && within(b, f) && within(f, best)) {
                    best = f;
                }
            }
            return faces().indexOf(best);
        }

        public int meet(int c, int d) {
            int a = set(c);
            int b = set(d);
            int best = set(0);
            for (int f : faces()) {
                if (within(f, a) && within(f, b) && within(best, f)) {
                    best = f;
                }
            }
            return faces().indexOf(best);
        }

        private List<Integer> interval(int a, int b) {
            List<Integer> found = new ArrayList<>();
            for (int c : faces()) {
                if (within(a, c) && within(c, b)) {
                    found.add(c);
                }
            }
            return found;
        }

        public int between(int c, int d) {
            return interval(set(c), set(d)).size();
        }

        public int chains(int c, int d) {
            int low = set(c);
            int high = set(d);
            int[] ways = new int[256];
            for (int b : interval(low, high)) {
                ways[b] = b == low ? 1 : 0;
                for (int a : interval(low, b)) {
                    if (isCover(a, b)) {
                        ways[b] += ways[a];
                    }
                }
            }
            return within(low, high) ? ways[high] : 0;
        }

        public int mobius(int c, int d) {
            return mobiusOf(set(c), set(d));
        }

        private int mobiusOf(int low, int high) {
            int[] number = new int[256];
            List<Integer> faces = interval(low, high);
            for (int b : faces) {
                number[b] = b == low ? 1 : 0;
                for (int a : faces) {
                    if (a != b && within(a, b)) {
                        number[b] -= number[a];
                    }
                }
            }
            return within(low, high) ? number[high] : 0;
        }

        // Kinds

        public boolean isGraded() {
            for (int a : faces()) {
                for (int b : faces()) {
                    if (isCover(a, b) && ranks[b] != ranks[a] + 1) {
                        return false;
                    }
                }
            }
            return true;
        }

        public int alternating() {
            int sum = 0;
            for (int c : faces()) {
                sum += ranks[c] % 2 == 0 ? 1 : -1;
            }
            return sum;
        }

        public boolean isEulerian() {
            if (!isGraded()) {
                return false;
            }
            for (int a : faces()) {
                for (int b : faces()) {
                    if (within(a, b) && mobiusOf(a, b) != ((ranks[b] - ranks[a]) % 2 == 0 ? 1 : -1)) {
                        return false;
                    }
                }
            }
            return true;
        }

        public boolean isSimplicial() {
            for (int c : faces()) {
                if (c != all() && interval(set(0), c).size() != 1 << ranks[c]) {
                    return false;
                }
            }
            return true;
        }

        public boolean isSimple() {
            for (int c : faces()) {
                if (c != set(0) && interval(c, all()).size() != 1 << height() - ranks[c]) {
                    return false;
                }
            }
            return true;
        }

        public int flags() {
            return chains(0, faces().size() - 1);
        }

        // Paths

        public int neighbours(int p, boolean dual) {
            int found = 0;
            if (dual) {
                facetNumber(p);
                for (int f = 0; f < facets.size(); f++) {
                    int a = facets.get(p);
                    int b = facets.get(f);
                    if (a != b && isCover(a & b, a) && isCover(a & b, b)) {
                        found |= 1 << f;
                    }
                }
            } else {
                point(p);
                for (int q = 0; q < n; q++) {
                    if (q != p && elements(close(1 << p | 1 << q)).size() == 2) {
                        found |= 1 << q;
                    }
                }
            }
            return found;
        }

        private int size(boolean dual) {
            return dual ? facets.size() : n;
        }

        private int[] levels(int from, boolean dual) {
            int[] level = new int[size(dual)];
            java.util.Arrays.fill(level, -1);
            level[from] = 0;
            ArrayDeque<Integer> queue = new ArrayDeque<>(List.of(from));
            while (!queue.isEmpty()) {
                int at = queue.remove();
                for (int q : elements(neighbours(at, dual))) {
                    if (level[q] < 0) {
                        level[q] = level[at] + 1;
                        queue.add(q);
                    }
                }
            }
            return level;
        }

        private void node(int p, boolean dual) {
            if (p < 0 || p >= size(dual)) {
                throw new IndexOutOfBoundsException();
            }
        }

        public int distance(int p, int q, boolean dual) {
            node(p, dual);
            node(q, dual);
            return levels(p, dual)[q];
        }

        public int step(int p, int q, boolean dual) {
            node(p, dual);
            node(q, dual);
            int length = levels(p, dual)[q];
            if (length <= 0) {
                throw new NoSuchElementException();
            }
            for (int r : elements(neighbours(p, dual))) {
                if (levels(r, dual)[q] == length - 1) {
                    return r;
                }
            }
            throw new AssertionError();
        }

        public int diameter(boolean dual) {
            int greatest = -1;
            for (int p = 0; p < size(dual); p++) {
                for (int length : levels(p, dual)) {
                    if (length < 0) {
                        throw new NoSuchElementException();
                    }
                    greatest = Math.max(greatest, length);
                }
            }
            if (greatest < 0) {
                throw new NoSuchElementException();
            }
            return greatest;
        }

        // Types

        private interface Visitor {
            /** Returns whether to go on. */
            boolean meet(int[] map);
        }

        private boolean isomorphisms(State onto, int[] map, int k, Visitor visitor) {
            if (n != onto.n || facets.size() != onto.facets.size()) {
                return true;
            }
            if (k == n) {
                List<Integer> mapped = new ArrayList<>();
                for (int facet : facets) {
                    int set = 0;
                    for (int p = 0; p < n; p++) {
                        set |= (facet >> p & 1) << map[p];
                    }
                    mapped.add(set);
                }
                List<Integer> due = new ArrayList<>(onto.facets);
                Collections.sort(mapped);
                Collections.sort(due);
                return !mapped.equals(due) || visitor.meet(map);
            }
            for (int t = 0; t < n; t++) {
                boolean free = true;
                for (int j = 0; j < k; j++) {
                    free &= map[j] != t;
                }
                if (free) {
                    map[k] = t;
                    if (!isomorphisms(onto, map, k + 1, visitor)) {
                        return false;
                    }
                }
            }
            return true;
        }

        public int automorphisms() {
            int[] count = {0};
            isomorphisms(new State(n, facets), new int[n], 0, map -> {
                count[0]++;
                return true;
            });
            return count[0];
        }

        public int orbit(int p) {
            point(p);
            int[] set = {0};
            isomorphisms(new State(n, facets), new int[n], 0, map -> {
                set[0] |= 1 << map[p];
                return true;
            });
            return set[0];
        }

        public boolean isLike() {
            legal(copy != null);
            return !isomorphisms(copy, new int[n], 0, map -> false);
        }

        public int image(int p) {
            point(p);
            legal(copy != null);
            int[] map = new int[n];
            if (isomorphisms(copy, map, 0, m -> false)) {
                throw new NoSuchElementException();
            }
            return map[p];
        }
    }
}
