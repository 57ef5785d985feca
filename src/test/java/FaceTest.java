import java.io.IOException;
import java.lang.reflect.Constructor;
import java.lang.reflect.Field;
import java.lang.reflect.Method;
import java.lang.reflect.Modifier;
import java.nio.charset.StandardCharsets;
import java.nio.file.Files;
import java.nio.file.Path;
import java.util.Arrays;
import java.util.Set;
import java.util.TreeSet;

/** The public face, and the rules of LANGUAGE.md that can be seen from outside or from the bare text. */
public final class FaceTest {
    private static final String FACE = "feed IIIII int,end I boolean,fault I int,text I int,rule I int,room II int,"
        + "law I boolean,hold I boolean,round II int,wobble I boolean,steps II int,day  int,shut I boolean,"
        + "wheels Z int,move III int,fill II int,decades IJ int,undo  int,log II int,comes II int,best I int,"
        + "shortest II int,seat I int,seen IIZ int,fits I int,second  int,ask I int,crumbs II int,shares II int,"
        + "game IIIII int,rests III int,meet II int,thaw I int,odds II int,season I int,all I int,floor I int,"
        + "nearest I int,happy I int,image  int,back  int,count I int";

    public static void main(String[] args) throws IOException {
        methods();
        members();
        nested();
        bareText();
        Due.close("FaceTest");
    }

    private static void methods() {
        Set<String> found = new TreeSet<>();
        for (Method m : TeaTrolley.class.getDeclaredMethods()) {
            if (Modifier.isPublic(m.getModifiers())) {
                StringBuilder s = new StringBuilder(m.getName()).append(' ');
                for (Class<?> p : m.getParameterTypes()) {
                    s.append(p == int.class ? 'I' : p == long.class ? 'J' : p == boolean.class ? 'Z' : '?');
                }
                found.add(s.append(' ').append(m.getReturnType()).toString());
                Due.is(m.getName() + " is static", Modifier.isStatic(m.getModifiers()), false);
            }
        }
        Set<String> due = new TreeSet<>(Arrays.asList(FACE.split(",")));
        Due.is("the document's methods " + found, found.equals(due) ? 1 : 0, 1);
        Due.is("42 methods", due.size(), 42);
    }

    private static void members() {
        Due.is("final", Modifier.isFinal(TeaTrolley.class.getModifiers()), true);
        Constructor<?>[] made = TeaTrolley.class.getDeclaredConstructors();
        Due.is("one constructor", made.length, 1);
        Due.is("public", Modifier.isPublic(made[0].getModifiers()), true);
        Due.is("NONE", TeaTrolley.NONE, -1);
        Due.is("HIDDEN", TeaTrolley.HIDDEN, -1000000);
        Set<String> face = new TreeSet<>();
        for (Method m : TeaTrolley.class.getMethods()) {
            face.add(m.getName());
        }
        for (Method m : TeaTrolley.class.getDeclaredMethods()) {
            boolean open = Modifier.isPublic(m.getModifiers());
            Due.is(m + " is private", open || Modifier.isPrivate(m.getModifiers()), true);
            Due.is(m + " has a name of its own", !open && face.contains(m.getName()), false);
        }
        for (Field f : TeaTrolley.class.getDeclaredFields()) {
            boolean told = f.getName().equals("NONE") || f.getName().equals("HIDDEN");
            Due.is(f + " is private", told == Modifier.isPublic(f.getModifiers())
                && (told || Modifier.isPrivate(f.getModifiers())), true);
        }
    }

    private static void nested() {
        Class<?>[] inside = TeaTrolley.class.getDeclaredClasses();
        Due.is("some twelve classes", inside.length < 12, true);
        for (Class<?> c : inside) {
            Due.is(c + " is static", Modifier.isStatic(c.getModifiers()), true);
            Due.is(c + " is not public", Modifier.isPublic(c.getModifiers()), false);
            int fields = 0;
            for (Field f : c.getDeclaredFields()) {
                boolean fixed = Modifier.isStatic(f.getModifiers());
                Due.is(f + " static is final", !fixed || Modifier.isFinal(f.getModifiers()), true);
                fields += fixed ? 0 : 1;
            }
            Due.is(c + " has some twenty fields", fields <= 20, true);
            for (Method m : c.getDeclaredMethods()) {
                Due.is(m + " takes seven at most", m.getParameterCount() <= 7, true);
                Due.is(m + " has a name of its own", FACE.matches("(.*,)?" + m.getName() + " .*"), false);
            }
        }
    }

    private static void bareText() throws IOException {
        String text = Files.readString(Path.of("src/main/java/TeaTrolley.java"), StandardCharsets.UTF_8);
        Due.is("plain signs", text.chars().allMatch(c -> c < 127), true);
        String[] none = {"catch", "finally", "->", "::", "synchronized", "assert ", "Exact(", "package ", "float ",
            "double ", "System.out", "instanceof", "lambda", "Object "};
        for (String word : none) {
            Due.is("no " + word, text.contains(word), false);
        }
        int imports = 0;
        for (String line : text.split("\n")) {
            imports += line.startsWith("import ") ? 1 : 0;
            Due.is("a line of 120 at most", line.length() <= 120, true);
        }
        Due.is("one import", imports, 1);
    }
}
