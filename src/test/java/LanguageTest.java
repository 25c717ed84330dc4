import com.sun.source.tree.*;
import com.sun.source.util.JavacTask;
import com.sun.source.util.TreePathScanner;
import com.sun.source.util.Trees;
import java.nio.charset.StandardCharsets;
import java.nio.file.Files;
import java.nio.file.Path;
import java.util.*;
import javax.lang.model.element.*;
import javax.lang.model.type.TypeMirror;
import javax.tools.JavaCompiler;
import javax.tools.StandardJavaFileManager;
import javax.tools.ToolProvider;

/** The rules of LANGUAGE.md that can be read from the program's tree: its words, its library, its sizes, its depth. */
public final class LanguageTest {
    private static final Path PROGRAM = Path.of("src/main/java/HeartHours.java");
    private static final int CLASSES = 12, FIELDS = 20, PARAMETERS = 7, LINES = 60, DEPTH = 8;
    private static final Set<String> LIBRARY = Set.of(
        "java.lang.String.length", "java.lang.String.charAt", "java.lang.String.isEmpty", "java.lang.String.equals",
        "java.lang.System.arraycopy", "java.util.Arrays.fill", "java.util.Arrays.copyOf", "java.util.Arrays.copyOfRange",
        "java.lang.Math.abs", "java.lang.Math.min", "java.lang.Math.max", "java.lang.Integer.bitCount",
        "java.lang.Integer.numberOfTrailingZeros", "java.lang.Object.<init>");
    private static int wrong = 0;

    private static void say(String what) {
        wrong++;
        System.out.println(what);
    }

    private static final class Looker extends TreePathScanner<Void, Void> {
        final Trees trees;
        final CompilationUnitTree unit;
        final Map<Element, Set<Element>> calls = new LinkedHashMap<>();
        final Map<Element, Set<Element>> callsUp = new LinkedHashMap<>();
        final List<ExecutableElement> methods = new ArrayList<>();
        int classes = 0;
        Element inside;

        Looker(Trees trees, CompilationUnitTree unit) {
            this.trees = trees;
            this.unit = unit;
        }

        long line(Tree t) { return unit.getLineMap().getLineNumber(trees.getSourcePositions().getStartPosition(unit, t)); }
        long lastLine(Tree t) { return unit.getLineMap().getLineNumber(trees.getSourcePositions().getEndPosition(unit, t)); }
        void no(Tree t, String what) { say("line " + line(t) + ": " + what); }

        @Override public Void visitImport(ImportTree t, Void v) {
            if (!Set.of("java.util.Arrays", "java.util.ArrayList", "java.util.List").contains(t.getQualifiedIdentifier().toString())) no(t, "import");
            return super.visitImport(t, v);
        }
        @Override public Void visitThrow(ThrowTree t, Void v) { no(t, "throw"); return null; }
        @Override public Void visitTry(TryTree t, Void v) { no(t, "try"); return null; }
        @Override public Void visitSynchronized(SynchronizedTree t, Void v) { no(t, "synchronized"); return null; }
        @Override public Void visitAssert(AssertTree t, Void v) { no(t, "assert"); return null; }
        @Override public Void visitLambdaExpression(LambdaExpressionTree t, Void v) { no(t, "lambda"); return null; }
        @Override public Void visitMemberReference(MemberReferenceTree t, Void v) { no(t, "method reference"); return null; }
        @Override public Void visitAnnotation(AnnotationTree t, Void v) { no(t, "annotation"); return null; }
        @Override public Void visitBlock(BlockTree t, Void v) {
            if (t.isStatic()) no(t, "static block");
            return super.visitBlock(t, v);
        }
        @Override public Void visitBinary(BinaryTree t, Void v) {
            TypeMirror type = trees.getTypeMirror(getCurrentPath());
            if (type != null && type.toString().equals("java.lang.String")) no(t, "texts joined by +");
            return super.visitBinary(t, v);
        }
        @Override public Void visitLiteral(LiteralTree t, Void v) {
            if (t.getValue() instanceof String) for (char c : ((String) t.getValue()).toCharArray()) if (c < 1 || c > 127) no(t, "sign");
            return null;
        }
        @Override public Void visitClass(ClassTree t, Void v) {
            classes++;
            Element e = trees.getElement(getCurrentPath());
            boolean top = e.getEnclosingElement().getKind() == ElementKind.PACKAGE;
            if (!top && !e.getModifiers().contains(Modifier.STATIC)) no(t, "class inside that isn't static");
            int fields = 0;
            for (Tree m : t.getMembers()) {
                if (!(m instanceof VariableTree)) continue;
                Set<Modifier> its = ((VariableTree) m).getModifiers().getFlags();
                if (!its.contains(Modifier.STATIC)) fields++;
                else if (!its.contains(Modifier.FINAL)) no(m, "static field that isn't final");
            }
            if (fields > FIELDS) no(t, fields + " fields");
            return super.visitClass(t, v);
        }
        @Override public Void visitMethod(MethodTree t, Void v) {
            if (t.getParameters().size() > PARAMETERS) no(t, "parameters");
            if (lastLine(t) - line(t) + 1 > LINES) no(t, "long method " + t.getName());
            Element was = inside;
            inside = trees.getElement(getCurrentPath());
            methods.add((ExecutableElement) inside);
            calls.putIfAbsent(inside, new LinkedHashSet<>());
            callsUp.putIfAbsent(inside, new LinkedHashSet<>());
            super.visitMethod(t, v);
            inside = was;
            return null;
        }
        @Override public Void visitMethodInvocation(MethodInvocationTree t, Void v) {
            Element e = trees.getElement(getCurrentPath());
            String owner = e.getEnclosingElement().toString();
            if (!owner.startsWith("HeartHours")) {
                String name = owner + "." + e.getSimpleName();
                if (!LIBRARY.contains(name)) no(t, "library: " + name);
            }
            boolean up = t.getMethodSelect().toString().startsWith("super.");
            if (inside != null) (up ? callsUp : calls).get(inside).add(e);
            return super.visitMethodInvocation(t, v);
        }
        @Override public Void visitNewClass(NewClassTree t, Void v) {
            if (t.getClassBody() != null) no(t, "anonymous class");
            return super.visitNewClass(t, v);
        }
    }

    /** How deep calls go, a recursion counted once through; calls that can be overridden go to each that does it. */
    private static final class Depth {
        final Map<Element, Set<Element>> calls;
        final Map<Element, Set<Element>> callsUp;
        final List<ExecutableElement> methods;
        final javax.lang.model.util.Elements elements;
        final Set<Element> open = new HashSet<>();

        Depth(Looker looker, javax.lang.model.util.Elements elements) {
            calls = looker.calls;
            callsUp = looker.callsUp;
            methods = looker.methods;
            this.elements = elements;
        }

        Set<Element> targets(Element called) {
            Set<Element> all = new LinkedHashSet<>();
            all.add(called);
            for (ExecutableElement m : methods) {
                if (called instanceof ExecutableElement
                    && elements.overrides(m, (ExecutableElement) called, (TypeElement) m.getEnclosingElement())) all.add(m);
            }
            return all;
        }

        int of(Element m) {
            if (open.contains(m)) return 0;
            open.add(m);
            int deepest = 0;
            for (Element c : callsUp.getOrDefault(m, Set.of())) deepest = Math.max(deepest, of(c));
            for (Element c : calls.getOrDefault(m, Set.of())) {
                for (Element target : targets(c)) deepest = Math.max(deepest, of(target));
            }
            open.remove(m);
            return deepest + 1;
        }
    }

    public static void main(String[] args) throws Exception {
        String text = Files.readString(PROGRAM, StandardCharsets.ISO_8859_1);
        for (int i = 0; i < text.length(); i++) if (text.charAt(i) > 126) say("a sign above 126 at " + i);
        JavaCompiler compiler = ToolProvider.getSystemJavaCompiler();
        try (StandardJavaFileManager files = compiler.getStandardFileManager(null, null, null)) {
            JavacTask task = (JavacTask) compiler.getTask(null, files, null, List.of("-proc:none"), null, files.getJavaFileObjects(PROGRAM));
            CompilationUnitTree unit = task.parse().iterator().next();
            task.analyze();
            Looker looker = new Looker(Trees.instance(task), unit);
            looker.scan(unit, null);
            if (looker.classes > CLASSES) say(looker.classes + " classes");
            Depth depth = new Depth(looker, task.getElements());
            for (ExecutableElement m : looker.methods) {
                int deep = depth.of(m);
                if (m.getModifiers().contains(Modifier.PUBLIC) && deep > DEPTH) say(m + " goes " + deep + " deep");
            }
        }
        System.out.println(wrong == 0 ? "the language is kept to" : wrong + " places aren't in the language");
        if (wrong != 0) System.exit(1);
    }
}
