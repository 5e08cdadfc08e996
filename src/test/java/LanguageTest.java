import java.lang.management.ManagementFactory;
import java.lang.reflect.Constructor;
import java.lang.reflect.Field;
import java.lang.reflect.Method;
import java.lang.reflect.Modifier;
import java.nio.file.Files;
import java.nio.file.Path;
import java.util.ArrayList;
import java.util.Arrays;
import java.util.List;
import java.util.Set;
import java.util.TreeSet;
import java.util.regex.Matcher;
import java.util.regex.Pattern;

/** The face of the class, the rules of LANGUAGE.md that can be seen from outside, and what calls make. */
public final class LanguageTest {
    private static final String FACE = "feed(int,int,int,int,int)int text(int)int fault(int)int named(int,int)int "
        + "man(int,int)int has(int,int)int deed(int,int)int times(int,int)int law(int,int)long wear(int,boolean)boolean "
        + "goal(int,int)boolean plan(int,int,int)boolean lend(int,int)int go(int)int ahead(int,int,int)int "
        + "reaches(int,int)int longest(int,int)int moves(int,int,int)int deeds(int,int)int leads()int winner(int)int "
        + "needs(int)int rests(int,int)int rest(int,int,int)int rank(int)int falls(int,int)int earns(int,int,int)int "
        + "falseOnes(int,int)int habit(int)int breaks(int,int)int note(int,int,int,boolean)int out(int)int "
        + "known(int)boolean fits(int,int)int chance(int,int,int,int)int tried(int,int,int)int undo()int keep()int "
        + "back()int count(int)int";
    private static int wrong = 0;

    private static void check(boolean good, String what) {
        if (!good) {
            wrong++;
            System.out.println("LanguageTest: " + what);
        }
    }

    public static void main(String[] args) throws Exception {
        String source = Files.readString(Path.of("src/main/java/WristGoal.java"));
        face();
        inside();
        words(source);
        lengths(source);
        room();
        System.out.println("LanguageTest: " + wrong + " wrong");
        if (wrong > 0) {
            System.exit(1);
        }
    }

    private static void face() {
        Set<String> due = new TreeSet<>(Arrays.asList(FACE.split(" ")));
        Set<String> found = new TreeSet<>();
        check(due.size() == 40, "the face has 40 methods");
        for (Method m : WristGoal.class.getDeclaredMethods()) {
            if (!Modifier.isPrivate(m.getModifiers())) {
                StringBuilder s = new StringBuilder(m.getName()).append('(');
                for (Class<?> p : m.getParameterTypes()) {
                    s.append(s.charAt(s.length() - 1) == '(' ? "" : ",").append(p);
                }
                found.add(s.append(')').append(m.getReturnType()).toString());
                check(Modifier.isPublic(m.getModifiers()) && !Modifier.isStatic(m.getModifiers()), m + " is public");
            }
        }
        check(due.equals(found), "the face is " + found);
        for (Field f : WristGoal.class.getDeclaredFields()) {
            boolean none = f.getName().equals("NONE");
            check(none ? Modifier.isPublic(f.getModifiers()) : Modifier.isPrivate(f.getModifiers()), "" + f);
        }
        Constructor<?>[] made = WristGoal.class.getDeclaredConstructors();
        check(made.length == 1 && Modifier.isPublic(made[0].getModifiers()), "one public constructor");
        check(Modifier.isFinal(WristGoal.class.getModifiers()), "the class is final");
    }

    private static void inside() {
        Set<String> names = new TreeSet<>();
        for (String call : FACE.split(" ")) {
            names.add(call.substring(0, call.indexOf('(')));
        }
        List<Class<?>> all = new ArrayList<>(Arrays.asList(WristGoal.class.getDeclaredClasses()));
        check(all.size() < 12, "at most twelve classes");
        for (Class<?> c : all) {
            check(Modifier.isStatic(c.getModifiers()) && !Modifier.isPublic(c.getModifiers()), c + " is static");
            for (Method m : c.getDeclaredMethods()) {
                check(!names.contains(m.getName()), m + " bears a name of the face");
            }
        }
        all.add(WristGoal.class);
        for (Class<?> c : all) {
            int fields = 0;
            for (Field f : c.getDeclaredFields()) {
                boolean constant = Modifier.isStatic(f.getModifiers());
                check(!constant || Modifier.isFinal(f.getModifiers()), f + " is final");
                fields += constant ? 0 : 1;
            }
            check(fields <= 20, c + " has " + fields + " fields");
            for (Method m : c.getDeclaredMethods()) {
                check(m.getParameterCount() <= 7, m + " has too many parameters");
                check(!Modifier.isPrivate(m.getModifiers()) || !names.contains(m.getName()), m + " is private");
            }
        }
    }

    private static void words(String source) {
        String bare = source.replaceAll("(?s)/\\*.*?\\*/", "").replaceAll("//[^\n]*", "").replaceAll("\"[^\"]*\"", "\"\"");
        for (String word : new String[] {"->", "::", "Exact", "\\btry\\b", "\\bcatch\\b", "\\bfinally\\b", "\\bassert\\b",
            "\\bsynchronized\\b", "static \\{", "\\bpackage\\b", "\\bdouble\\b", "\\bfloat\\b", "\\.equals\\(",
            "\"\" *\\+", "\\+ *\"\"", "\\binstanceof\\b", "\\bvar\\b", "Random", "Thread", "System\\.(?!arraycopy)"}) {
            check(!Pattern.compile(word).matcher(bare).find(), "the source has " + word);
        }
        Matcher imports = Pattern.compile("import ([a-zA-Z.]+);").matcher(bare);
        while (imports.find()) {
            check(Set.of("java.util.Arrays", "java.util.NoSuchElementException").contains(imports.group(1)), imports.group());
        }
        Matcher thrown = Pattern.compile("throw new ([A-Za-z]+)").matcher(bare);
        while (thrown.find()) {
            check(Set.of("IndexOutOfBoundsException", "NoSuchElementException").contains(thrown.group(1)), thrown.group());
        }
        check(source.chars().allMatch(c -> c == 10 || c >= 32 && c < 127), "signs of 32 to 126 alone");
    }

    private static void lengths(String source) {
        int from = 0;
        String[] lines = source.split("\n");
        for (int i = 0; i < lines.length; i++) {
            check(lines[i].length() <= 120, "line " + (i + 1) + " is long");
            if (lines[i].matches(" {4}( {4})?[a-zA-Z].*\\) ?(throws [A-Za-z, ]+)?\\{")) {
                from = i;
            }
            if (lines[i].matches(" {4}( {4})?\\}")) {
                check(i - from <= 60, "the method of line " + (from + 1) + " is long");
                from = i;
            }
        }
    }

    /** All calls live in one room, so a call makes nothing: what it needs is made with the object. */
    private static void room() {
        var bean = (com.sun.management.ThreadMXBean) ManagementFactory.getThreadMXBean();
        WristGoal x = new WristGoal();
        int[] fed = bytes("man a 50 30 9;man b 60 50 9;deed d 1 2 3;plan a d 2;law push 9+behind;law fair steps;bet 9 5;");
        allCalls(x, fed);
        long before = bean.getCurrentThreadAllocatedBytes();
        for (int k = 0; k < 100; k++) {
            allCalls(x, fed);
        }
        long made = bean.getCurrentThreadAllocatedBytes() - before;
        check(made < 20000, "calls made " + made + " bytes");
    }

    private static int[] bytes(String text) {
        int[] words = new int[(text.length() + 19) / 20 * 5];
        for (int k = 0; k < 4 * words.length; k++) {
            words[k / 4] = words[k / 4] << 8 | (k < text.length() ? text.charAt(k) : ' ');
        }
        return words;
    }

    private static void allCalls(WristGoal x, int[] fed) {
        for (int k = 0; k < fed.length; k += 5) {
            x.feed(fed[k], fed[k + 1], fed[k + 2], fed[k + 3], fed[k + 4]);
        }
        x.text(fed.length * 4);
        x.go(3);
        x.wear(0, false);
        x.goal(0, 30);
        x.plan(0, 0, 5);
        x.lend(1, 5);
        x.keep();
        x.note(3, 0, 50, true);
        x.out(0);
        x.known(-1);
        int sum = x.fault(0) + x.named(0, 5) + x.man(0, 0) + x.has(0, 0) + x.deed(0, 0) + x.times(0, 0)
            + (int) x.law(0, 0) + x.ahead(0, 9, 0) + x.reaches(0, 9) + x.longest(0, 9) + x.moves(0, 9, 0)
            + x.deeds(0, 4) + x.leads() + x.winner(0) + x.needs(0) + x.rests(0, 1) + x.rest(0, 1, 0) + x.rank(0)
            + x.falls(0, 9) + x.earns(0, 9, 0) + x.falseOnes(0, 0) + x.habit(0) + x.breaks(0, 9) + x.fits(0, 0)
            + x.chance(5, 9, 0, 1) + x.tried(0, 0, 9) + x.undo() + x.back() + x.count(6);
        check(sum != 123456789, "never so");
    }
}
