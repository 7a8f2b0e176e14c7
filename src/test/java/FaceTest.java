import java.lang.reflect.Constructor;
import java.lang.reflect.Field;
import java.lang.reflect.Method;
import java.lang.reflect.Modifier;
import java.nio.file.Files;
import java.nio.file.Path;
import java.util.Set;
import java.util.TreeSet;

/** The public face of the document, and those rules of LANGUAGE.md that can be seen from outside or in the words of the file. */
public final class FaceTest {
    private static final Check check = new Check("FaceTest");

    public static void main(String[] args) throws Exception {
        face();
        words(Path.of(args.length > 0 ? args[0] : "src/main/java/LitWindows.java"));
        noCallThrows();
        check.finish();
    }

    private static void face() {
        Set<String> due = new TreeSet<>(Set.of("feed int 5", "end boolean 1", "fault int 0", "plant int 0", "stick boolean 2",
            "window int 2", "fails int 2", "lit int 2", "first int 2", "horns int 2", "log int 2", "erase int 0", "joined int 1",
            "off boolean 1", "explain int 1", "altered int 2", "rest boolean 2", "till boolean 1", "board int 3", "harm int 1",
            "change boolean 2", "told int 2", "wall int 2", "count int 1"));
        Set<String> names = new TreeSet<>();
        for (String one : due) names.add(one.split(" ")[0]);
        Set<String> got = new TreeSet<>();
        for (Method m : LitWindows.class.getDeclaredMethods()) {
            if (Modifier.isPublic(m.getModifiers())) got.add(m.getName() + " " + m.getReturnType() + " " + m.getParameterCount());
            else check.due("private and of another name: " + m, Modifier.isPrivate(m.getModifiers()) && !names.contains(m.getName()), true);
        }
        check.due("the methods " + got, got.equals(due), true);
        for (Field f : LitWindows.class.getDeclaredFields()) {
            check.due("field " + f, Modifier.isPrivate(f.getModifiers()) || f.getName().equals("NONE"), true);
        }
        Constructor<?>[] made = LitWindows.class.getDeclaredConstructors();
        check.due("constructors", made.length == 1 && made[0].getParameterCount() == 0 && Modifier.isPublic(made[0].getModifiers()), true);
        check.due("final", Modifier.isFinal(LitWindows.class.getModifiers()), true);
        check.due("classes inside", LitWindows.class.getDeclaredClasses().length <= 11, true);
        for (Class<?> inside : LitWindows.class.getDeclaredClasses()) {
            check.due("static " + inside, Modifier.isStatic(inside.getModifiers()), true);
            int fields = 0;
            for (Field f : inside.getDeclaredFields()) {
                if (Modifier.isStatic(f.getModifiers())) check.due("final " + f, Modifier.isFinal(f.getModifiers()), true);
                else fields++;
            }
            check.due("fields of " + inside, fields <= 20, true);
            for (Method m : inside.getDeclaredMethods()) {
                check.due("parameters of " + m, m.getParameterCount() <= 7, true);
                check.due("another name: " + m, !names.contains(m.getName()), true);
            }
        }
    }

    private static void words(Path file) throws Exception {
        String code = Files.readString(file).replaceAll("(?s)/\\*.*?\\*/", " ").replaceAll("//.*", " ").replaceAll("\"[^\"]*\"", "text");
        for (String word : new String[] {"throw", "throws", "try", "catch", "synchronized", "assert", "package", "record", "protected"}) {
            check.due("no " + word, code.matches("(?s).*\\b" + word + "\\b.*"), false);
        }
        check.due("no lambda", code.contains("->") || code.contains("::"), false);
        check.due("no divisor", code.contains("/") || code.contains("%"), false);
    }

    /** Numbers from everywhere into every call, with a plant and without. */
    private static void noCallThrows() {
        int[] odd = {Integer.MIN_VALUE, -1000, -2, -1, 0, 1, 2, 3, 5, 8, 11, 12, 13, 30, 60, 61, 600, 999, 1000, 4095, 4096, Integer.MAX_VALUE};
        String plant = "point a any;point b all;from a to b in 60;from b to a in 0;window a 1;window b 2;window b 0 60 of 2;hide 0 while 1 not 2;hide 1 while 0;";
        int calls = 0;
        for (int a : odd) {
            for (int b : odd) {
                LitWindows[] both = {new LitWindows(), Check.of(plant)};
                for (LitWindows x : both) {
                    x.stick(a, b); x.window(a, b); x.fails(a, b); x.lit(a, b); x.first(a, b); x.horns(a, b); x.log(a, b);
                    x.joined(a); x.off(a); x.explain(a); x.altered(a, b); x.rest(a, b > 0); x.till(a); x.board(a, b, 1);
                    x.board(1, a, b); x.harm(a); x.change(a, b); x.told(a, b); x.wall(a, b); x.count(a); x.feed(a, b, a, b, a);
                    x.end(a); x.fault(); x.plant(); x.erase();
                    calls++;
                }
            }
        }
        check.due("calls", calls, 2 * odd.length * odd.length);
    }
}
