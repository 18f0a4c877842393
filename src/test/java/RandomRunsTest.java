import java.lang.reflect.Method;
import java.util.ArrayList;
import java.util.Comparator;
import java.util.HashMap;
import java.util.List;
import java.util.Map;

/** Long runs of calls, the same each time, on the class and on the Model: answers and digests are the same. */
public final class RandomRunsTest {
    private static final int RUNS = 400;
    private static final int CALLS = 300;
    /** Of each argument, least and most; both and one beside each are called too. */
    private static final Map<String, int[]> RANGES = new HashMap<>();
    /** How often a call comes, beside the others. */
    private static final Map<String, Integer> WEIGHTS = new HashMap<>();

    private static long random = 1;

    static {
        Object[][] ranges = {
            {"wind", 0, 7, 0, 20, 0, 1}, {"user", 0, 5, 0, 11, 1, 4}, {"type", 0, 127}, {"hour", 1, 12},
            {"suit", 0, 5, 0, 6}, {"hears", 0, 4}, {"pays", 0, 6}, {"of", 0, 6, 0, 3}, {"about", 0, 4, 0, 3},
            {"blows", 0, 11, 0, 7, 0, 1}, {"takes", 0, 6, 0, 7}, {"then", 0, 6, 0, 99}, {"calm", 0, 6},
            {"place", 0, 5, 1, 4, 0, 1}, {"share", 0, 6}, {"award", 0, 4}, {"court", -1, 4},
            {"reading", 0, 7, 0, 11, 0, 20}, {"stood", 0, 2}, {"note", 0, 6, 1, 4, 0, 20, 0, 8, 0, 24},
            {"mark", 0, 4, 0, 20, 0, 12, 0, 40}, {"forget", 0, 2}, {"is", 0, 6}, {"look", 0, 6}, {"kinds", 0, 4},
            {"tries", 0, 4}, {"parties", 0, 4}, {"calms", 0, 6, 0, 8, 0, 10}, {"years", 0, 999999, 0, 60},
            {"part", 0, 1}, {"image", 0, 1}, {"from", 0, 1}, {"status", 0, 2}, {"count", 0, 9}};
        for (Object[] row : ranges) {
            int[] range = new int[row.length - 1];
            for (int i = 0; i < range.length; i++) {
                range[i] = (Integer) row[i + 1];
            }
            RANGES.put((String) row[0], range);
        }
        Object[][] weights = {{"hour", 8}, {"suit", 5}, {"user", 4}, {"hears", 3}, {"undo", 3}, {"wind", 3},
            {"court", 4}, {"parties", 3}, {"read", 4}, {"clear", 0}, {"island", 0}, {"type", 0}, {"digest", 0}};
        for (Object[] row : weights) {
            WEIGHTS.put((String) row[0], (Integer) row[1]);
        }
    }

    private static int upTo(int most) {
        random = random * 6364136223846793005L + 1442695040888963407L;
        return (int) Long.remainderUnsigned(random >>> 17, (long) most + 1);
    }

    public static void main(String[] args) throws Exception {
        List<Method> calls = new ArrayList<>();
        for (Method method : WindLawyer.class.getDeclaredMethods()) {
            if (java.lang.reflect.Modifier.isPublic(method.getModifiers())) {
                for (int i = 0; i < WEIGHTS.getOrDefault(method.getName(), 2); i++) {
                    calls.add(method);
                }
            }
        }
        calls.sort(Comparator.comparing(Method::getName));
        int wrong = 0;
        for (int run = 0; run < RUNS && wrong == 0; run++) {
            wrong = wrongInRun(run, calls);
        }
        System.out.println(wrong == 0 ? "all answers are as due" : "answers are not as due");
        if (wrong != 0) {
            System.exit(1);
        }
    }

    private static int wrongInRun(int run, List<Method> calls) throws Exception {
        WindLawyer x = new WindLawyer();
        Model m = new Model();
        StringBuilder told = new StringBuilder();
        fillIsland(x, m, told);
        for (int i = 0; i < CALLS; i++) {
            Method call = calls.get(upTo(calls.size() - 1));
            if (call.getName().equals("read")) {
                write(x, m);
            }
            Object[] arguments = arguments(call);
            told.append(call.getName()).append(List.of(arguments)).append(' ');
            long got = ((Number) call.invoke(x, arguments)).longValue();
            Method twin = Model.class.getDeclaredMethod(call.getName(), call.getParameterTypes());
            long wanted = ((Number) twin.invoke(m, arguments)).longValue();
            boolean alike = got == wanted && x.digest() == m.digest();
            for (int what = 0; what < 3; what++) {
                alike &= x.status(what) == m.status(what);
            }
            if (!alike) {
                System.out.println("run " + run + ": " + told + "answered " + got + ", due is " + wanted
                        + "; digest " + x.digest() + ", due is " + m.digest() + "; text \"" + m.text + "\"");
                return 1;
            }
            if (upTo(59) == 0) {
                told.append("island ");
                x.island();
                m.island();
                fillIsland(x, m, told);
            }
        }
        return 0;
    }

    /** Winds of most hours and some users, near one another more often than not. */
    private static void fillIsland(WindLawyer x, Model m, StringBuilder told) {
        int cells = upTo(11);
        for (int h = 0; h < 8; h++) {
            int strength = upTo(3) == 0 ? 0 : upTo(20);
            int side = upTo(1);
            told.append("wind").append(List.of(h, strength, side)).append(' ');
            x.wind(h, strength, side);
            m.wind(h, strength, side);
        }
        for (int n = upTo(6); n > 0; n--) {
            int kind = upTo(5);
            int cell = upTo(cells);
            int height = 1 + upTo(3);
            told.append("user").append(List.of(kind, cell, height)).append(' ');
            x.user(kind, cell, height);
            m.user(kind, cell, height);
        }
    }

    private static Object[] arguments(Method call) {
        Object[] arguments = new Object[call.getParameterCount()];
        int[] range = RANGES.getOrDefault(call.getName(), new int[0]);
        for (int i = 0; i < arguments.length; i++) {
            int least = range[2 * i];
            int most = range[2 * i + 1];
            int odd = upTo(59);
            if (odd == 0) {
                arguments[i] = least - 1;
            } else if (odd == 1) {
                arguments[i] = most + 1;
            } else if (odd == 2) {
                arguments[i] = upTo(1) == 0 ? Integer.MIN_VALUE : Integer.MAX_VALUE;
            } else {
                arguments[i] = least + upTo(most - least);
            }
        }
        return arguments;
    }

    private static void write(WindLawyer x, Model m) {
        x.clear();
        m.clear();
        StringBuilder text = new StringBuilder(upTo(19) == 0 ? " " : "island;");
        for (int n = upTo(12); n > 0; n--) {
            text.append(item());
        }
        for (int n = upTo(5) - 3; n > 0 && text.length() > 0; n--) {
            String others = "; 0129az-isuer";
            char c = others.charAt(upTo(others.length() - 1));
            int place = upTo(text.length() - 1);
            switch (upTo(2)) {
                case 0 -> text.insert(place, c);
                case 1 -> text.setCharAt(place, c);
                default -> text.deleteCharAt(place);
            }
        }
        for (int i = 0; i < text.length() && i < 150; i++) {
            x.type(text.charAt(i));
            m.type(text.charAt(i));
        }
    }

    private static String item() {
        String text;
        int odd = upTo(7);
        if (odd < 2) {
            text = "user " + upTo(5) + " " + upTo(11) + " " + (1 + upTo(3));
        } else if (odd < 4) {
            text = "suit " + upTo(5) + " " + upTo(upTo(3));
        } else if (odd < 6) {
            text = "hours " + (1 + upTo(98));
        } else {
            StringBuilder winds = new StringBuilder("winds");
            for (int n = upTo(upTo(8)); n >= 0; n--) {
                winds.append(' ').append(upTo(20)).append(' ').append(upTo(1));
            }
            text = winds.toString();
        }
        text += upTo(3) == 0 ? " ; " : ";";
        return upTo(3) == 0 ? text.replaceFirst(" ", "") : text;
    }
}
