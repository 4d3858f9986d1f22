import java.lang.reflect.Method;
import java.util.ArrayList;
import java.util.Arrays;
import java.util.List;
import java.util.Random;

/** Runs of calls by lot (always the same ones): the class must answer each as the Model does. */
public final class ModelTest {
    private static final int RUNS = 1500;
    private static final int CALLS = 512;
    private static final double MOST_WAYS = 1500;
    private static final List<String> COUNTING = List.of("meets", "among", "mine", "likeliest", "many", "likely",
        "mean", "covers", "near", "needs", "first", "place", "asked", "host", "cheap", "wager", "comes", "luck");

    private static final String SPOILERS = "();+-*<= a0z9A&\t\u00e9";

    private final Random random;
    private final TwoOnOneDay real = new TwoOnOneDay();
    private final Model model = new Model();
    private final int run;
    private final int crowd;
    private int calls = 0;
    private static int wrong = 0;
    private static int compared = 0;

    private ModelTest(int run) {
        this.run = run;
        random = new Random(20261118L + run);
        crowd = random.nextInt(5) + random.nextInt(4);
    }

    public static void main(String[] arguments) throws Exception {
        Check.watch();
        Method[] methods = publicMethods();
        for (int run = 0; run < RUNS && wrong < 20; run++) {
            new ModelTest(run).goThrough(methods);
        }
        System.out.println(compared + " calls compared, " + wrong + " wrong");
        if (wrong != 0) {
            System.exit(1);
        }
    }

    private static Method[] publicMethods() {
        List<Method> all = new ArrayList<>(List.of(TwoOnOneDay.class.getDeclaredMethods()));
        all.removeIf(m -> (m.getModifiers() & java.lang.reflect.Modifier.PUBLIC) == 0);
        all.sort((a, b) -> a.getName().compareTo(b.getName()));
        return all.toArray(new Method[0]);
    }

    private void goThrough(Method[] methods) throws Exception {
        call(named(methods, "set"), 0, 0, 1 + random.nextInt(run % 3 == 0 ? 24 : 6));
        while (calls < CALLS - 60) {
            Method method = methods[random.nextInt(methods.length)];
            String name = method.getName();
            if (COUNTING.contains(name) && model.manyWays() > MOST_WAYS) {
                continue;
            }
            boolean isRare = name.equals("set") || name.equals("feed") || name.equals("image") || name.equals("back");
            if (isRare && random.nextInt(4) != 0) {
                continue;
            }
            if (name.equals("feed") || name.equals("text") && random.nextInt(4) == 0) {
                feedAll(methods, text());
                continue;
            }
            if (name.equals("person") && model.size() >= crowd && random.nextInt(10) != 0) {
                continue;
            }
            if (name.equals("judge") || name.equals("list") || name.equals("laws") || name.equals("can")) {
                tellList(methods);
            }
            call(method, argumentsFor(name, method.getParameterCount()));
        }
    }

    private static Method named(Method[] methods, String name) {
        return Arrays.stream(methods).filter(m -> m.getName().equals(name)).findFirst().orElseThrow();
    }

    private void call(Method method, int... arguments) throws Exception {
        Object[] boxed = Arrays.stream(arguments).boxed().toArray();
        Object got = method.invoke(real, boxed);
        Object due = Model.class.getMethod(method.getName(), method.getParameterTypes()).invoke(model, boxed);
        calls++;
        compared++;
        if (!got.equals(due)) {
            wrong++;
            System.out.println("run " + run + ", call " + calls + ": " + method.getName() + Arrays.toString(arguments)
                + " answered " + got + ", due is " + due);
        }
    }

    private void feedAll(Method[] methods, String text) throws Exception {
        Method feed = named(methods, "feed");
        for (int i = 0; i < text.length() && calls < CALLS - 20; i += 5) {
            int[] five = new int[6];
            five[0] = Math.min(5, text.length() - i);
            for (int k = 0; k < five[0]; k++) {
                five[k + 1] = text.charAt(i + k);
            }
            call(feed, five);
        }
        call(named(methods, "text"));
        call(named(methods, "force"), random.nextInt(6));
    }

    /** Half of the time a SHEET that may truly tell the DAY of each. */
    private void tellList(Method[] methods) throws Exception {
        if (random.nextBoolean()) {
            return;
        }
        int s = random.nextInt(4);
        if (random.nextBoolean()) {
            call(named(methods, "film"), s, random.nextInt(100000));
            return;
        }
        call(named(methods, "sheet"), s, random.nextInt(3), model.size());
        for (int p = 0; p < model.size(); p++) {
            call(named(methods, "cell"), s, p, random.nextInt(model.count(1)));
        }
    }

    private int[] argumentsFor(String name, int many) {
        int[] a = new int[many];
        for (int i = 0; i < many; i++) {
            a[i] = switch (random.nextInt(20)) {
                case 0 -> random.nextInt(60) - 20;
                case 1 -> random.nextBoolean() ? random.nextInt() : Integer.MAX_VALUE - random.nextInt(2);
                case 2 -> Integer.MIN_VALUE + random.nextInt(2);
                default -> random.nextInt(7);
            };
        }
        int[] wild = a.clone();
        if (random.nextInt(8) != 0) {
            makeLikely(name, a);
        }
        if (many > 0 && random.nextInt(6) == 0) {
            int i = random.nextInt(many);
            a[i] = wild[i];
        }
        return a;
    }

    private int day() {
        return random.nextInt(model.count(1));
    }

    private int one() {
        return random.nextInt(Math.max(1, model.size()));
    }

    private int subset() {
        return random.nextInt(1 << model.size());
    }

    private void makeLikely(String name, int[] a) {
        switch (name) {
            case "set" -> put(a, random.nextInt(2), day(), random.nextInt(10));
            case "bornOn", "mine" -> put(a, day(), random.nextInt(2));
            case "asks" -> put(a, random.nextInt(3), one(), day());
            case "person" -> put(a, random.nextInt(6), random.nextInt(10), day());
            case "move", "weight" -> put(a, one(), day());
            case "told" -> put(a, one(), random.nextInt(5));
            case "meets" -> put(a, 1 + random.nextInt(7), random.nextInt(2));
            case "among", "wager" -> put(a, subset(), random.nextInt(2));
            case "many" -> put(a, random.nextInt(2), random.nextInt(10), random.nextInt(2));
            case "likely", "mean" -> put(a, random.nextInt(2), random.nextInt(2));
            case "covers" -> put(a, 1 << day() | 1 << day() | random.nextInt(8), random.nextInt(2));
            case "near" -> put(a, random.nextInt(random.nextBoolean() ? 4 : 25), random.nextInt(2));
            case "needs" -> put(a, 1 + random.nextInt(100));
            case "first" -> put(a, one(), random.nextInt(2));
            case "host" -> put(a, 1 + random.nextInt(4), random.nextInt(3));
            case "cheap" -> put(a, 1 + random.nextInt(random.nextBoolean() ? 20 : 100), random.nextInt(2));
            case "comes", "luck" -> put(a, random.nextInt(4), random.nextInt(2));
            case "can" -> put(a, random.nextInt(4), one(), random.nextInt(2));
            case "drawn" -> put(a, random.nextInt(100000), one());
            case "film" -> put(a, random.nextInt(4), random.nextInt(100000));
            case "odds" -> put(a, random.nextInt(100000), 1 + random.nextInt(50), random.nextInt(2));
            case "sheet" -> put(a, random.nextInt(4), random.nextInt(4) - 1, random.nextInt(41));
            case "cell" -> put(a, random.nextInt(4), random.nextInt(10), random.nextInt(8) * (1 + 255 * random.nextInt(3)));
            case "copy" -> put(a, random.nextInt(4), random.nextInt(5), random.nextInt(4), random.nextInt(5), random.nextInt(5));
            case "peopleBy" -> put(a, random.nextInt(4), random.nextInt(3), random.nextInt(5), random.nextInt(3));
            case "taken" -> put(a, random.nextInt(31), random.nextInt(7));
            default -> { }
        }
    }

    private static void put(int[] a, int... values) {
        System.arraycopy(values, 0, a, 0, Math.min(a.length, values.length));
    }

    // ---- texts by lot

    private String text() {
        StringBuilder text = new StringBuilder();
        for (String key : List.of("weighs", "pays", "asks")) {
            text.append(key).append(' ').append(any(0)).append(random.nextBoolean() ? ";" : " ;\n");
        }
        if (random.nextInt(3) == 0) {
            spoil(text);
        }
        return text.length() > 160 && random.nextInt(4) != 0 ? text.substring(0, 160) : text.toString();
    }

    private void spoil(StringBuilder text) {
        int at = random.nextInt(text.length());
        switch (random.nextInt(4)) {
            case 0 -> text.deleteCharAt(at);
            case 1 -> text.setCharAt(at, SPOILERS.charAt(random.nextInt(SPOILERS.length())));
            case 2 -> text.insert(at, List.of("not ", "(", "-", " or ", "who", "12345", " ", ";").get(random.nextInt(8)));
            default -> text.setLength(at);
        }
    }

    private String any(int deep) {
        return random.nextInt(5) == 0 && deep < 5 ? all(deep) + " or " + all(deep + 1) : all(deep);
    }

    private String all(int deep) {
        return random.nextInt(5) == 0 && deep < 5 ? not(deep) + " and " + not(deep + 1) : not(deep);
    }

    private String not(int deep) {
        if (random.nextInt(8) == 0 && deep < 7) {
            return "not " + not(deep + 1);
        }
        return switch (random.nextInt(6)) {
            case 0 -> sum(deep) + "<" + sum(deep);
            case 1 -> sum(deep) + " = " + sum(deep);
            default -> sum(deep);
        };
    }

    private String sum(int deep) {
        return switch (random.nextInt(6)) {
            case 0 -> term(deep) + "+" + term(deep);
            case 1 -> term(deep) + " - " + term(deep);
            default -> term(deep);
        };
    }

    private String term(int deep) {
        return random.nextInt(5) == 0 ? one(deep) + "*" + one(deep) : one(deep);
    }

    private String one(int deep) {
        return switch (random.nextInt(12)) {
            case 0, 1 -> deep < 7 ? "(" + any(deep + 1) + ")" : "1";
            case 2 -> deep < 7 ? "-" + one(deep + 1) : "3";
            case 3, 4, 5, 6 -> Integer.toString(random.nextInt(random.nextInt(6) == 0 ? 20000 : 10));
            default -> List.of("day", "born", "year", "more", "told", "who").get(random.nextInt(6));
        };
    }
}
