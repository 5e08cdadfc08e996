import java.lang.reflect.InvocationTargetException;
import java.lang.reflect.Method;
import java.lang.reflect.Modifier;
import java.util.ArrayList;
import java.util.Comparator;
import java.util.List;
import java.util.NoSuchElementException;
import java.util.Random;

/** Any call with any numbers in any state: nothing is ever thrown but what man() promises. */
public final class OddCallsTest {
    private static final int[] ODD = {Integer.MIN_VALUE, Integer.MIN_VALUE + 1, -99999, -2, -1, 0, 0, 0, 1, 1, 1, 2, 2,
        3, 4, 5, 6, 7, 9, 10, 12, 13, 14, 20, 23, 24, 39, 40, 41, 59, 60, 61, 98, 99, 100, 699, 700, 701, 998, 999, 1000,
        9899, 9900, 9901, 99999, 100000, 1 << 30, Integer.MAX_VALUE - 1, Integer.MAX_VALUE};
    /** As many people, deeds, plans and knots as there may be. */
    private static final String FULL = "man a 50 30 9;man b 60 50 9;man c 70 70 0;man d 0 0 0;man e 99 99 99;"
        + "deed a 1 2 3;deed b 20 20 9;deed c 0 0 0;deed d 5 9 1;deed e 3 2 1;deed f 9 9 9;plan a a 9;plan a f 1;"
        + "plan b b 2;plan b f 3;plan c c 4;plan c a 5;plan d d 6;plan d e 7;plan e e 8;plan e f 9;plan e a 1;"
        + "plan a e 1;bet 999 14;pay 99 9;rain 50;seed 7;law push behind" + "+1".repeat(11) + "*(not 0);"
        + "law habit base" + "+row-row".repeat(5) + ";law fair ((((((((steps))))))))" + "/1*1".repeat(3) + "/1/day;";
    private static final String[] TEXTS = {FULL,
        "man a 50 30 9;man b 60 50 9;deed d 1 2 3;plan a d 2;law push 9+behind;bet 9 5;rain 50;",
        "man a 0 0 0;man b 99 99 99;man c 9 9 9;man d 1 2 3;man e 5 5 5;deed f 20 20 9;deed g 0 0 0;"
            + "law fair 9999*9999*9999*9999;",
        "law habit ((((((((base))))))))/day;man a 50 30 9;pay 99 0;seed 99999;rain 99;",
        "", "man", "law fair (((((((((", "seed 9999999999;"};

    public static void main(String[] args) throws Exception {
        List<Method> calls = new ArrayList<>();
        for (Method m : WristGoal.class.getDeclaredMethods()) {
            if (Modifier.isPublic(m.getModifiers())) {
                calls.add(m);
            }
        }
        calls.sort(Comparator.comparing(Method::getName));
        Random random = new Random(20261118);
        int wrong = 0;
        for (int run = 0; run < 400 && wrong == 0; run++) {
            WristGoal x = new WristGoal();
            for (int k = 0; k < 512 && wrong == 0; k++) {
                if (k % 64 == 0) {
                    tell(x, random);
                }
                wrong += call(x, calls.get(random.nextInt(calls.size())), random) ? 0 : 1;
            }
        }
        System.out.println("OddCallsTest: " + wrong + " wrong");
        if (wrong > 0) {
            System.exit(1);
        }
    }

    private static void tell(WristGoal x, Random random) {
        StringBuilder s = new StringBuilder(random.nextInt(4) == 0 ? FULL : TEXTS[random.nextInt(TEXTS.length)]);
        for (int k = random.nextInt(6) - 3; k > 0; k--) {
            s.insert(random.nextInt(s.length() + 1), (char) random.nextInt(256));
        }
        int length = s.length();
        x.text(0);
        for (int from = 0; from < length; from += 20) {
            int[] five = new int[5];
            for (int k = 0; k < 20; k++) {
                five[k / 4] = five[k / 4] << 8 | (from + k < length ? s.charAt(from + k) : ' ');
            }
            x.feed(five[0], five[1], five[2], five[3], five[4]);
        }
        x.text(length);
    }

    private static boolean call(WristGoal x, Method m, Random random) throws IllegalAccessException {
        Object[] with = new Object[m.getParameterCount()];
        for (int i = 0; i < with.length; i++) {
            boolean yes = random.nextBoolean();
            with[i] = m.getParameterTypes()[i] == boolean.class ? (Object) yes
                : (Object) (random.nextInt(3) == 0 ? ODD[random.nextInt(ODD.length)] : random.nextInt(6));
        }
        if (m.getName().equals("text") && random.nextInt(8) > 0) {
            return true;
        }
        try {
            m.invoke(x, with);
            return true;
        } catch (InvocationTargetException e) {
            Throwable cause = e.getCause();
            boolean promised = m.getName().equals("man") && (cause.getClass() == IndexOutOfBoundsException.class
                || cause.getClass() == NoSuchElementException.class);
            if (!promised) {
                System.out.println(m.getName() + java.util.Arrays.toString(with) + " threw " + cause);
            }
            return promised;
        }
    }
}
