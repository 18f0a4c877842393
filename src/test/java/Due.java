import java.util.function.LongSupplier;

/** Counts the answers that are not as due; shared by the tests. */
final class Due {
    static final int BAD = 0, NO = 1, FULL = 2;

    private int wrong;
    private String sentence = "";

    /** The sentence of the document that is held from here on, behind its promise; it is told with what is wrong. */
    void sentence(String told) {
        sentence = told + ": ";
    }

    void is(String call, long got, long want) {
        if (got != want) {
            wrong++;
            System.out.println(sentence + call + " answered " + got + ", due is " + want);
        }
    }

    void same(String told, String got, String want) {
        if (!got.equals(want)) {
            wrong++;
            System.out.println(sentence + told + " is " + got + ", due is " + want);
        }
    }

    /** The call is refused: it answers so, changes nothing, and counts once, under what alone. */
    void refused(WindLawyer x, String call, LongSupplier made, long answer, int what) {
        long digest = x.digest();
        int[] before = {x.status(BAD), x.status(NO), x.status(FULL)};
        is(call, made.getAsLong(), answer);
        is(call + ": digest behind it", x.digest(), digest);
        for (int i = 0; i < 3; i++) {
            is(call + ": status(" + i + ") behind it", x.status(i), before[i] + (i == what ? 1 : 0));
        }
    }

    void bad(WindLawyer x, String call, LongSupplier made) {
        refused(x, call, made, WindLawyer.BAD, BAD);
    }

    void no(WindLawyer x, String call, LongSupplier made) {
        refused(x, call, made, WindLawyer.NO, NO);
    }

    void full(WindLawyer x, String call, LongSupplier made) {
        refused(x, call, made, WindLawyer.FULL, FULL);
    }

    /** The call changes nothing, STATUS neither. */
    void quiet(WindLawyer x, String call, LongSupplier made, long want) {
        long digest = x.digest();
        int refused = x.status(BAD) + x.status(NO) + x.status(FULL);
        is(call, made.getAsLong(), want);
        is(call + ": digest behind it", x.digest(), digest);
        is(call + ": refusals behind it", x.status(BAD) + x.status(NO) + x.status(FULL), refused);
    }

    static void write(WindLawyer x, String text) {
        x.clear();
        for (int i = 0; i < text.length(); i++) {
            x.type(text.charAt(i));
        }
    }

    /** An object whose island was told by a text. */
    static WindLawyer told(String text) {
        WindLawyer x = new WindLawyer();
        write(x, text);
        int items = x.read();
        if (items < 0) {
            throw new IllegalStateException("fault " + items + " in " + text);
        }
        x.clear();
        return x;
    }

    void end() {
        System.out.println(wrong == 0 ? "all answers are as due" : wrong + " answers are not as due");
        if (wrong != 0) {
            System.exit(1);
        }
    }
}
