import java.lang.reflect.Method;
import java.util.Arrays;

/** Objects made alike, calls by their names, and all that an object answers: what a call changed can be seen by them. */
final class Twin {
    static final int USERS = 5, SUITS = 3;

    private Twin() {
    }

    /** Some of all there is, and room for more. */
    static WindLawyer half() {
        WindLawyer x = new WindLawyer();
        int[] winds = {9, 0, 6, 1, 20, 0, 0, 1, 4, 0, 13, 1, 0, 0, 10, 0};
        int[] users = {0, 2, 1, 2, 5, 2, 4, 5, 3, 5, 11, 4, 3, 0, 1};
        tell(x, winds, users);
        x.hour(3);
        x.suit(1, 0);
        x.suit(4, 3);
        x.image(1);
        x.suit(2, 2);
        x.hour(2);
        x.pays(1);
        x.reading(2, 11, 14);
        x.reading(0, 4, 8);
        x.note(1, 2, 9, 2, 7);
        x.mark(1, 10, 8, 36);
        x.image(0);
        x.hour(4);
        x.calms(0, 8, 3);
        Due.write(x, "island;user 1 2 3;winds 7 1;hours 5;");
        return x;
    }

    /** All that an object can hold; suit 4, a shutter, is heard. */
    static WindLawyer full() {
        WindLawyer x = new WindLawyer();
        int[] winds = {20, 1, 19, 0, 18, 1, 17, 0, 16, 1, 15, 0, 14, 1, 13, 0};
        int[] users = {0, 2, 1, 2, 5, 2, 4, 5, 3, 5, 11, 4, 3, 0, 1, 1, 7, 2, 0, 11, 4};
        tell(x, winds, users);
        for (int i = 0; i < 5; i++) {
            x.hour(1 + i);
            x.suit(i == 4 ? 5 : i, 6 - i);
        }
        x.image(0);
        x.hears(4);
        for (int i = 0; i < 4; i++) {
            x.reading(i, i, 12 + i);
        }
        for (int i = 0; i < 6; i++) {
            x.note(i, 1, 20, 7 - i, 21);
            x.mark(i % 5, 10 + i, 2, 12 + i);
        }
        x.image(1);
        x.share(6);
        Due.write(x, "island;user 1 2 3;" + " ".repeat(124) + "hours 5;");
        return x;
    }

    private static void tell(WindLawyer x, int[] winds, int[] users) {
        for (int h = 0; h < 8; h++) {
            x.wind(h, winds[2 * h], winds[2 * h + 1]);
        }
        for (int i = 0; i < users.length; i += 3) {
            x.user(users[i], users[i + 1], users[i + 2]);
        }
    }

    /** Hours go by up to that one. */
    static void passTo(WindLawyer x, int hour) {
        for (int i = 0; i < 102 && x.count(2) < hour; i++) {
            x.hour(Math.min(99, hour - x.count(2)));
        }
    }

    static Method method(String name) {
        for (Method m : WindLawyer.class.getDeclaredMethods()) {
            if (m.getName().equals(name)) {
                return m;
            }
        }
        throw new IllegalArgumentException(name);
    }

    static long call(WindLawyer x, String name, int... arguments) {
        Object[] boxed = Arrays.stream(arguments).boxed().toArray();
        try {
            return ((Number) method(name).invoke(x, boxed)).longValue();
        } catch (ReflectiveOperationException e) {
            throw new IllegalStateException(name + Arrays.toString(arguments), e);
        }
    }

    /** All that an object holds, but for STATUS: now, by each undo, in both images, in its text. It uses the object up. */
    static String answers(WindLawyer x) {
        StringBuilder all = new StringBuilder();
        ask(x, all);
        goBack(x, all);
        for (int i = 0; i < 2; i++) {
            all.append(" from ").append(x.from(i));
            ask(x, all);
            goBack(x, all);
        }
        all.append(" read ").append(x.read());
        ask(x, all);
        return all.append(" clear ").append(x.clear()).toString();
    }

    private static void goBack(WindLawyer x, StringBuilder all) {
        int left = x.count(8);
        for (int i = 0; i <= left; i++) {
            all.append(" undo ").append(x.undo()).append(' ').append(x.digest());
        }
    }

    /** The digest holds most; the others are here for what a call may have left in rows that are used again. */
    private static void ask(WindLawyer x, StringBuilder all) {
        all.append(' ').append(x.digest()).append(" part ").append(x.part(0)).append(" by ").append(x.part(1));
        all.append(" blows ").append(x.blows(5, 0, 0)).append(" then ").append(x.then(0, 9)).append(" is ").append(x.is(0));
        all.append(" kinds ").append(x.kinds(0)).append(" stood ").append(x.stood(0)).append(" court ").append(x.court(-1));
        all.append(" years ").append(x.years(7, 9));
    }
}
