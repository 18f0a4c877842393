import java.util.Arrays;
import java.util.function.Supplier;

/** What is refused as NO and FULL, which of the refusals comes first, and what changes nothing at all. */
public final class RefusalsTest {
    private static final Due due = new Due();

    public static void main(String[] args) {
        full();
        badAheadOfFull();
        no();
        badAheadOfNo();
        refusedUnderOtherNumbers();
        noRefusals();
        nothingIsChanged();
        onlyTheFractionIsChanged();
        refusedCallsAreNotUndone();
        due.end();
    }

    /** The call is refused, counts once under what, and its object holds what one holds that was made alike. */
    static void leavesAll(Due due, Supplier<WindLawyer> made, String call, int[] arguments, long answer, int what) {
        WindLawyer x = made.get();
        String told = call + Arrays.toString(arguments);
        int[] before = statusOf(x);
        due.is(told, Twin.call(x, call, arguments), answer);
        int[] behind = statusOf(x);
        for (int i = 0; i < 3; i++) {
            due.is(told + ": status(" + i + ") is more by", behind[i] - before[i], i == what ? 1 : 0);
        }
        due.same(told + ": what is left", Twin.answers(x), Twin.answers(made.get()));
    }

    private static int[] statusOf(WindLawyer x) {
        return new int[] {x.status(Due.BAD), x.status(Due.NO), x.status(Due.FULL)};
    }

    private static void refused(Supplier<WindLawyer> made, long answer, int what, String call, int... arguments) {
        leavesAll(due, made, call, arguments, answer, what);
    }

    private static void fullOf(int promise, String limit, String call, int... arguments) {
        due.sentence("Promise " + promise + ", FULL: " + limit);
        refused(Twin::full, WindLawyer.FULL, Due.FULL, call, arguments);
    }

    private static void full() {
        fullOf(4, "7 users", "user", 0, 0, 1);
        fullOf(5, "150 bytes", "type", 32);
        fullOf(9, "5 suits", "suit", 0, 0);
        fullOf(19, "7 users", "place", 0, 1, 0);
        fullOf(19, "7 users, how much less", "place", 5, 4, 1);
        fullOf(24, "4 readings", "reading", 0, 0, 0);
        fullOf(26, "6 notes", "note", 0, 1, 0, 0, 0);
        fullOf(27, "6 marks", "mark", 0, 0, 0, 0);
    }

    private static void badAheadOfFull() {
        due.sentence("Refused: BAD comes ahead of FULL");
        int[][] numbers = {{6, 0, 1}, {0, 12, 1}, {0, 0, 5}};
        for (int[] user : numbers) {
            refused(Twin::full, WindLawyer.BAD, Due.BAD, "user", user);
        }
        refused(Twin::full, WindLawyer.BAD, Due.BAD, "type", 128);
        refused(Twin::full, WindLawyer.BAD, Due.BAD, "type", -1);
        refused(Twin::full, WindLawyer.BAD, Due.BAD, "suit", 6, 0);
        refused(Twin::full, WindLawyer.BAD, Due.BAD, "suit", 0, 7);
        refused(Twin::full, WindLawyer.BAD, Due.BAD, "place", 6, 1, 0);
        refused(Twin::full, WindLawyer.BAD, Due.BAD, "place", 0, 5, 0);
        refused(Twin::full, WindLawyer.BAD, Due.BAD, "place", 0, 1, 2);
        refused(Twin::full, WindLawyer.BAD, Due.BAD, "reading", 8, 0, 0);
        refused(Twin::full, WindLawyer.BAD, Due.BAD, "reading", 0, 12, 0);
        refused(Twin::full, WindLawyer.BAD, Due.BAD, "reading", 0, 0, 21);
        refused(Twin::full, WindLawyer.BAD, Due.BAD, "note", 7, 1, 0, 0, 0);
        refused(Twin::full, WindLawyer.BAD, Due.BAD, "note", 0, 1, 0, 0, 201);
        refused(Twin::full, WindLawyer.BAD, Due.BAD, "mark", 5, 0, 0, 0);
        refused(Twin::full, WindLawyer.BAD, Due.BAD, "mark", 0, 0, 0, 1000);
    }

    private static WindLawyer told() {
        return Due.told("island;winds 9 0;user 0 2 1;hours 3;suit 0 0;");
    }

    private static void no() {
        due.sentence("Promise 10, NO: it is heard");
        refused(Twin::full, WindLawyer.NO, Due.NO, "hears", 4);
        due.sentence("Promise 33, NO: it is heard");
        refused(Twin::full, WindLawyer.NO, Due.NO, "parties", 4);
        due.sentence("Promise 12, NO: none may be undone");
        refused(RefusalsTest::told, WindLawyer.NO, Due.NO, "undo");
        refused(WindLawyer::new, WindLawyer.NO, Due.NO, "undo");
        due.sentence("Promise 38, NO: none was kept");
        refused(RefusalsTest::told, WindLawyer.NO, Due.NO, "from", 0);
        refused(RefusalsTest::told, WindLawyer.NO, Due.NO, "from", 1);
        due.sentence("Promise 38, NO: the other image alone was kept");
        for (int kept = 0; kept < 2; kept++) {
            int other = kept;
            refused(() -> {
                WindLawyer x = told();
                x.image(other);
                return x;
            }, WindLawyer.NO, Due.NO, "from", 1 - kept);
        }
    }

    private static void badAheadOfNo() {
        due.sentence("Refused: BAD comes ahead of NO");
        refused(RefusalsTest::told, WindLawyer.BAD, Due.BAD, "from", 2);
        refused(RefusalsTest::told, WindLawyer.BAD, Due.BAD, "from", -1);
        refused(Twin::full, WindLawyer.BAD, Due.BAD, "hears", 5);
        refused(Twin::full, WindLawyer.BAD, Due.BAD, "parties", 5);
    }

    private static void refusedUnderOtherNumbers() {
        due.sentence("Promise 22, BAD is -10: i below -1");
        refused(Twin::half, -10, Due.BAD, "court", -2);
        refused(Twin::full, -10, Due.BAD, "court", Integer.MIN_VALUE);
        refused(WindLawyer::new, -10, Due.BAD, "court", -2);
        due.sentence("Promise 39, -1: another what (counts as BAD)");
        refused(Twin::half, -1, Due.BAD, "status", 3);
        refused(Twin::half, -1, Due.BAD, "status", -1);
        refused(WindLawyer::new, -1, Due.BAD, "status", 3);
    }

    private static void quiet(Supplier<WindLawyer> made, long answer, String call, int... arguments) {
        leavesAll(due, made, call, arguments, answer, WindLawyer.NONE);
    }

    private static WindLawyer wrongText() {
        WindLawyer x = Twin.full();
        Due.write(x, "island;user 1 2 3;suit 0 0;hours 9;winds 5;");
        return x;
    }

    private static void noRefusals() {
        due.sentence("Promise 22, -5: not so many (told without a reason, so no refusal)");
        quiet(Twin::half, -5, "court", 3);
        quiet(Twin::full, -5, "court", 4);
        quiet(WindLawyer::new, -5, "court", 0);
        quiet(WindLawyer::new, -5, "court", Integer.MAX_VALUE);
        due.sentence("Promise 7, -10 less the FAULT: all stays");
        quiet(RefusalsTest::wrongText, -10 - 42, "read");
        quiet(WindLawyer::new, -10, "read");
        due.sentence("Promise 18, NONE is no refusal");
        quiet(() -> Due.told("island;" + "winds 9 0 9 0 9 0 9 0 9 0 9 0 9 0 9 0;user 0 0 1;"), WindLawyer.NONE, "calm", 0);
        due.sentence("Promise 25, NONE is no refusal");
        quiet(() -> {
            WindLawyer x = new WindLawyer();
            x.reading(0, 0, 1);
            return x;
        }, WindLawyer.NONE, "stood", 1);
        due.sentence("Promise 30, NONE is no refusal");
        quiet(() -> {
            WindLawyer x = told();
            x.note(0, 1, 0, 1, 0);
            return x;
        }, WindLawyer.NONE, "look", 0);
        due.sentence("Promise 32, NONE is no refusal");
        quiet(() -> {
            WindLawyer x = told();
            x.mark(0, 0, 0, 1);
            return x;
        }, WindLawyer.NONE, "tries", 0);
    }

    /** What an object holds is the same behind the call, whatever it answers. */
    private static void asks(int promise, String call, int... arguments) {
        due.sentence("Promise " + promise + ", nothing is changed");
        long answer = Twin.call(Twin.half(), call, arguments);
        quiet(Twin::half, answer, call, arguments);
    }

    private static void nothingIsChanged() {
        asks(13, "of", 1, 3);
        asks(14, "about", 1, 2);
        asks(15, "blows", 5, 2, 1);
        asks(16, "takes", 2, 2);
        asks(17, "then", 0, 99);
        asks(18, "calm", 0);
        asks(19, "place", 5, 4, 0);
        asks(19, "place", 0, 1, 1);
        asks(21, "award", 1);
        asks(22, "court", -1);
        asks(22, "court", 2);
        asks(23, "settle");
        asks(25, "stood", 0);
        asks(25, "stood", 1);
        asks(25, "stood", 2);
        asks(29, "is", 1);
        asks(30, "look", 1);
        asks(31, "kinds", 1);
        asks(32, "tries", 1);
        asks(33, "parties", 0);
        asks(35, "years", 999999, 60);
        asks(36, "part", 0);
        asks(39, "status", 0);
        for (int what = 0; what < 10; what++) {
            asks(40, "count", what);
        }
        asks(41, "digest");
    }

    private static void onlyTheFractionIsChanged(int promise, String call, int... arguments) {
        due.sentence("Promise " + promise + ", nothing is changed but THE FRACTION");
        WindLawyer x = Twin.half();
        WindLawyer y = Twin.half();
        Twin.call(x, call, arguments);
        due.is("another fraction", x.part(0) != y.part(0) || x.part(1) != y.part(1) ? 1 : 0, 1);
        x.calms(0, 8, 7);
        y.calms(0, 8, 7);
        due.same(call + Arrays.toString(arguments) + ": what is left", Twin.answers(x), Twin.answers(y));
    }

    private static void onlyTheFractionIsChanged() {
        onlyTheFractionIsChanged(20, "share", 2);
        onlyTheFractionIsChanged(34, "calms", 0, 7, 6);
    }

    private static void refusedCallsAreNotUndone() {
        due.sentence("Promise 12, a refused call is none that may be undone, and leaves those that may be");
        WindLawyer x = told();
        x.hour(2);
        x.hears(0);
        x.hour(0);
        x.suit(6, 0);
        x.hears(0);
        x.pays(1);
        x.wind(8, 0, 0);
        x.user(0, 0, 0);
        due.is("count(8)", x.count(8), 2);
        due.is("undo() of the hearing", x.undo(), 5);
        due.is("undo() of the hours", x.undo(), 3);
        due.no(x, "undo() of no more", x::undo);
    }
}
