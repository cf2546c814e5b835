import java.lang.reflect.Constructor;
import java.lang.reflect.Field;
import java.lang.reflect.Method;
import java.lang.reflect.Modifier;
import java.nio.file.Files;
import java.nio.file.Path;
import java.util.ArrayList;
import java.util.HashSet;
import java.util.List;
import java.util.Set;
import java.util.regex.Matcher;
import java.util.regex.Pattern;

/** What a machine can see of LANGUAGE.md: the face, the imports, forbidden words, the length of methods. */
public final class RulesTest {
    private static final String SOURCE = "src/main/java/FaceLattice.java";
    private static final String[] FACE = {"append(int,int,int,int,int):int", "truncate(int):int", "errorPosition():int",
        "load():int", "setIncident(int,int,boolean):boolean", "addFacet(int):int", "removeFacet(int):int", "dual():int",
        "pyramid():int", "stack(int):int", "cutOff(int):int", "keepFace(int):int", "figure(int):int", "undo():int",
        "undoCount():int", "save():int", "restore():int", "pointCount():int", "facetCount():int", "facet(int):int",
        "facetsOf(int):int", "closure(int):int", "faceCount():int", "face(int):int", "indexOf(int):int",
        "rank(int):int", "height():int", "ofRank(int):int", "covers(int,boolean):int", "cover(int,boolean,int):int",
        "join(int,int):int", "meet(int,int):int", "between(int,int):int", "chains(int,int):int",
        "mobius(int,int):int", "isGraded():boolean", "alternating():int", "isEulerian():boolean",
        "isSimplicial():boolean", "isSimple():boolean", "flags():int", "neighbours(int,boolean):int",
        "distance(int,int,boolean):int", "step(int,int,boolean):int", "diameter(boolean):int", "automorphisms():int",
        "orbit(int):int", "isLike():boolean", "image(int):int"};
    private static final String[] FORBIDDEN = {"->", "::", "\\bsynchronized\\b", "\\bassert\\b", "\\bfinally\\b",
        "\\btry\\b", "\\bvar\\b", "\\bSystem\\.(?!arraycopy)", "\\bThread\\b", "\\brandom\\b", "Exact\\b",
        "\\bstatic *\\{", "\\bpackage\\b", "\\bObjects?\\b", "\\bequals\\b", "\\bhashCode\\b", "\\btoString\\b",
        "\" *\\+", "\\+ *\""};

    private static int wrong = 0;

    public static void main(String[] args) throws Exception {
        checkFace();
        checkFields(FaceLattice.class);
        Set<String> publicNames = new HashSet<>();
        for (String signature : FACE) {
            publicNames.add(signature.substring(0, signature.indexOf('(')));
        }
        for (Class<?> inside : FaceLattice.class.getDeclaredClasses()) {
            int modifiers = inside.getModifiers();
            due(inside + " is static and not public", Modifier.isStatic(modifiers)
                    && !Modifier.isPublic(modifiers) && !Modifier.isProtected(modifiers));
            checkFields(inside);
            for (Method method : inside.getDeclaredMethods()) {
                due(method + " has a name of its own", !publicNames.contains(method.getName()));
            }
        }
        due("at most twelve classes", FaceLattice.class.getDeclaredClasses().length < 12);
        checkSource(Files.readString(Path.of(SOURCE)));
        System.out.println("rules checked, " + wrong + " wrong");
        if (wrong != 0) {
            System.exit(1);
        }
    }

    private static void due(String what, boolean holds) {
        if (!holds) {
            wrong++;
            System.out.println("does not hold: " + what);
        }
    }

    private static void checkFace() {
        Class<?> type = FaceLattice.class;
        due("the class is public and final", Modifier.isPublic(type.getModifiers())
                && Modifier.isFinal(type.getModifiers()));
        Set<String> left = new HashSet<>(List.of(FACE));
        for (Method method : type.getDeclaredMethods()) {
            String signature = signature(method);
            if (Modifier.isPublic(method.getModifiers())) {
                due(signature + " is in the document", left.remove(signature));
                due(signature + " is not static", !Modifier.isStatic(method.getModifiers()));
            } else {
                due(signature + " is private", Modifier.isPrivate(method.getModifiers()));
                for (String face : FACE) {
                    due(signature + " has a name of its own", !face.startsWith(method.getName() + "("));
                }
            }
        }
        due("methods missing: " + left, left.isEmpty());
        Constructor<?>[] constructors = type.getDeclaredConstructors();
        due("one public constructor without parameters", constructors.length == 1
                && Modifier.isPublic(constructors[0].getModifiers()) && constructors[0].getParameterCount() == 0);
        for (Field field : type.getDeclaredFields()) {
            due(field + " is private, or NONE", Modifier.isPrivate(field.getModifiers())
                    != field.getName().equals("NONE"));
        }
    }

    private static String signature(Method method) {
        StringBuilder signature = new StringBuilder(method.getName()).append('(');
        for (Class<?> type : method.getParameterTypes()) {
            signature.append(signature.charAt(signature.length() - 1) == '(' ? "" : ",").append(type.getName());
        }
        return signature.append("):").append(method.getReturnType().getName()).toString();
    }

    private static void checkFields(Class<?> type) {
        int own = 0;
        for (Field field : type.getDeclaredFields()) {
            boolean isStatic = Modifier.isStatic(field.getModifiers());
            due(field + " is final if static", !isStatic || Modifier.isFinal(field.getModifiers()));
            own += isStatic ? 0 : 1;
        }
        due(type + " has at most twenty fields", own <= 20);
    }

    private static void checkSource(String source) {
        String code = source.replaceAll("//[^\n]*", "").replaceAll("'.'|'\\\\.'", "' '");
        for (String word : FORBIDDEN) {
            due("no " + word, !Pattern.compile(word).matcher(code).find());
        }
        Matcher imports = Pattern.compile("import ([^;]*);").matcher(code);
        while (imports.find()) {
            due("import " + imports.group(1), List.of("java.util.Arrays", "java.util.NoSuchElementException")
                    .contains(imports.group(1)));
        }
        Matcher thrown = Pattern.compile("throw ([^;]*);").matcher(code);
        while (thrown.find()) {
            due("throw " + thrown.group(1), thrown.group(1).matches("new [A-Za-z]+Exception\\(\\)"));
        }
        due("only signs 1 to 127", source.chars().allMatch(sign -> sign >= 1 && sign <= 127));
        checkLengths(code.split("\n"));
    }

    private static void checkLengths(String[] lines) {
        List<String> open = new ArrayList<>();
        int start = 0;
        for (int k = 0; k < lines.length; k++) {
            if (lines[k].matches(" {4}( {4})?[a-z][^=;]*\\) *(throws [A-Za-z, ]*)?\\{")) {
                start = k;
                open.add(lines[k].trim());
            }
            if (lines[k].matches(" {4}( {4})?\\}") && !open.isEmpty()) {
                due(open.get(open.size() - 1) + " has at most sixty lines", k - start < 60);
            }
        }
        due("methods found", open.size() > 100);
    }
}
