import java.io.IOException;
import java.lang.reflect.Constructor;
import java.lang.reflect.Field;
import java.lang.reflect.Method;
import java.lang.reflect.Modifier;
import java.nio.file.Files;
import java.nio.file.Paths;
import java.util.Set;
import java.util.TreeSet;

/** The members of the class are those of the document's face, and its source keeps LANGUAGE.md's plainest rules. */
public final class FaceTest {
    private static final String[] FACE = {"int feed(int,int,int,int,int)", "boolean end(int)", "int island()",
        "int fault()", "int stone(int,int)", "int find(int,int)", "int widow(int,int)", "int fits(int,int)",
        "int at(int)", "int pips(int)", "int why(int,int,int)", "int lay(int,int,int)", "int cat(int)", "int tide()",
        "int pawn(int)", "boolean redeem(int)", "int will(int,int)", "int undo()", "int visits(int)", "int able(int)",
        "int longest()", "int longAt(int)", "int all()", "int allAt(int)", "int game(int,int)", "int first()",
        "int open(int)", "int stretch()", "int leads(int,int)", "int dearest()", "int counts(int,int)",
        "int greedy()", "int memory()", "long dealings()", "long whose(int,int)", "int sure(int)",
        "int days(int,int)", "int drawn(int)", "int write()", "int byteAt(int)", "int gaps(int)", "int sentence()",
        "int said(int)", "boolean image(int)", "boolean restore(int)", "int count(int)"};
    private static final String SOURCE = "src/main/java/WidowRow.java";

    private FaceTest() {
    }

    public static void main(String[] args) throws IOException {
        members();
        inside();
        source();
        Due.finish("FaceTest");
    }

    private static void must(String what, boolean holds) {
        Due.due(what, holds, true);
    }

    private static void members() {
        Set<String> found = new TreeSet<>();
        for (Method m : WidowRow.class.getDeclaredMethods()) {
            if (!Modifier.isPrivate(m.getModifiers()) && !m.isSynthetic()) {
                StringBuilder text = new StringBuilder(m.getReturnType() + " " + m.getName() + "(");
                for (int i = 0; i < m.getParameterCount(); i++) {
                    text.append(i == 0 ? "" : ",").append(m.getParameterTypes()[i]);
                }
                found.add(text.append(")").toString());
                must(m + " is public and no more", m.getModifiers() == Modifier.PUBLIC);
            }
        }
        for (String member : FACE) {
            must(member + " is there", found.remove(member));
        }
        must("nothing but the face: " + found, found.isEmpty());
        for (Field f : WidowRow.class.getDeclaredFields()) {
            must(f + " is private", Modifier.isPrivate(f.getModifiers()) != f.getName().equals("NONE"));
        }
        must("NONE", WidowRow.NONE == -1);
        must("final", Modifier.isFinal(WidowRow.class.getModifiers()));
        Constructor<?>[] all = WidowRow.class.getDeclaredConstructors();
        must("one public constructor", all.length == 1 && all[0].getModifiers() == Modifier.PUBLIC);
    }

    private static void inside() {
        Set<String> face = new TreeSet<>();
        for (String member : FACE) {
            face.add(member.substring(member.indexOf(' ') + 1, member.indexOf('(')));
        }
        Class<?>[] classes = WidowRow.class.getDeclaredClasses();
        must("some twelve classes", classes.length <= 13);
        for (Class<?> c : classes) {
            must(c + " is seen by nobody else", !Modifier.isPublic(c.getModifiers()) && !Modifier.isProtected(c.getModifiers()));
            fieldsOf(c);
            for (Method m : c.getDeclaredMethods()) {
                must(m + " bears no name of the face", !face.contains(m.getName()));
                must(m + " has at most seven parameters", m.getParameterCount() <= 7);
            }
        }
        fieldsOf(WidowRow.class);
    }

    private static void fieldsOf(Class<?> c) {
        int own = 0;
        for (Field f : c.getDeclaredFields()) {
            boolean isStatic = Modifier.isStatic(f.getModifiers());
            own += isStatic ? 0 : 1;
            must(f + " is final, if static", !isStatic || Modifier.isFinal(f.getModifiers()));
        }
        must(c + " has at most twenty fields", own <= 20);
    }

    private static void source() throws IOException {
        int since = 0;
        int line = 0;
        for (String text : Files.readAllLines(Paths.get(SOURCE))) {
            line++;
            if (text.startsWith("import ")) {
                must("import in line " + line, text.matches(
                        "import java\\.util\\.(Arrays|ArrayList|List|Iterator|NoSuchElementException);"));
            }
            must("no lambda in line " + line,
                    !text.matches(".*[\\w)] *->.*") || text.matches(" *(case|default)\\b.*"));
            must("no method reference in line " + line, !text.contains("::"));
            must("nothing forbidden in line " + line, !text.matches(
                    ".*\\b(finally|assert|synchronized|Object|var)\\b.*")
                    || text.contains("\""));
            must("no text joined in line " + line, !text.matches(".*\" *\\+.*|.*\\+ *\".*"));
            since = text.matches("    .*\\{") && !text.contains("}") && text.contains("(") && !text.matches(
                    " *(if|for|while|switch|\\}).*") ? 0 : since + 1;
            must("a method is at most sixty lines long at line " + line, since <= 60 || !text.equals("        }"));
        }
        must("the source was read", line > 100);
    }
}
