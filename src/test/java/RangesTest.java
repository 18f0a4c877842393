import java.util.Arrays;

/**
 * Each number that a call takes: the least and the most that are told of it are taken; one less, one more and
 * the farthest ints are refused, counted once, and leave all as it was. Each row is a sentence of its own.
 */
public final class RangesTest {
    private static final Due due = new Due();
    private static final int LAST_USER = Twin.USERS - 1, LAST_SUIT = Twin.SUITS - 1;

    public static void main(String[] args) {
        numbers(3, "wind", 0, 7, 0, 20, 0, 1);
        numbers(4, "user", 0, 5, 0, 11, 1, 4);
        numbers(5, "type", 0, 127);
        numbers(8, "hour", 1, 99);
        numbers(9, "suit", 0, 5, 0, LAST_USER);
        numbers(10, "hears", 0, LAST_SUIT);
        numbers(11, "pays", 0, LAST_USER);
        numbers(13, "of", 0, LAST_USER, 0, 3);
        numbers(14, "about", 0, LAST_SUIT, 0, 3);
        numbers(15, "blows", 0, 11, 0, 7, 0, 1);
        numbers(16, "takes", 0, LAST_USER, 0, 7);
        numbers(17, "then", 0, LAST_USER, 0, 99);
        numbers(18, "calm", 0, LAST_USER);
        numbers(19, "place", 0, 5, 1, 4, 0, 1);
        numbers(20, "share", 0, LAST_USER);
        numbers(21, "award", 0, LAST_SUIT);
        numbers(24, "reading", 0, 7, 0, 11, 0, 20);
        numbers(25, "stood", 0, 2);
        numbers(26, "note", 0, LAST_USER, 1, 4, 0, 20, 0, 20, 0, 200);
        numbers(27, "mark", 0, LAST_SUIT, 0, 200, 0, 99, 0, 999);
        numbers(28, "forget", 0, 2);
        numbers(29, "is", 0, LAST_USER);
        numbers(30, "look", 0, LAST_USER);
        numbers(31, "kinds", 0, LAST_SUIT);
        numbers(32, "tries", 0, LAST_SUIT);
        numbers(33, "parties", 0, LAST_SUIT);
        numbers(34, "calms", 0, LAST_USER, 0, 8, 0, 10);
        numbers(35, "years", 0, 999999, 0, 60);
        numbers(36, "part", 0, 1);
        numbers(37, "image", 0, 1);
        numbers(38, "from", 0, 1);
        numbers(39, "status", 0, 2);
        numbers(40, "count", 0, 9);
        usersAndSuitsOfNone();
        allWrongAtOnce();
        due.end();
    }

    /** Behind a call's name come, for each of its numbers, the least and the most that is told. */
    private static void numbers(int promise, String call, int... ranges) {
        for (int i = 0; i < ranges.length / 2; i++) {
            due.sentence("Promise " + promise + ", number " + (i + 1) + " of " + call);
            int least = ranges[2 * i];
            int most = ranges[2 * i + 1];
            taken(call, with(ranges, i, least));
            taken(call, with(ranges, i, most));
            refused(call, with(ranges, i, least - 1));
            refused(call, with(ranges, i, most + 1));
            refused(call, with(ranges, i, Integer.MIN_VALUE));
            refused(call, with(ranges, i, Integer.MAX_VALUE));
        }
    }

    /** All numbers at their least, but one. */
    private static int[] with(int[] ranges, int place, int value) {
        int[] arguments = new int[ranges.length / 2];
        for (int i = 0; i < arguments.length; i++) {
            arguments[i] = i == place ? value : ranges[2 * i];
        }
        return arguments;
    }

    private static void taken(String call, int... arguments) {
        WindLawyer x = Twin.half();
        String told = call + Arrays.toString(arguments);
        long answer = Twin.call(x, call, arguments);
        due.is(told + " answered BAD", answer == WindLawyer.BAD ? 1 : 0, 0);
        for (int what = 0; what < 3; what++) {
            due.is(told + ": status(" + what + ")", x.status(what), 0);
        }
    }

    private static void refused(String call, int... arguments) {
        long answer = call.equals("status") ? WindLawyer.NONE : WindLawyer.BAD;
        RefusalsTest.leavesAll(due, Twin::half, call, arguments, answer, Due.BAD);
    }

    private static void usersAndSuitsOfNone() {
        String[] ofUser = {"pays", "calm", "share", "is", "look"};
        for (String call : ofUser) {
            due.sentence(call + " on an island without users");
            RefusalsTest.leavesAll(due, WindLawyer::new, call, new int[] {0}, WindLawyer.BAD, Due.BAD);
        }
        String[] ofSuit = {"hears", "award", "kinds", "tries", "parties"};
        for (String call : ofSuit) {
            due.sentence(call + " where no suit is");
            RefusalsTest.leavesAll(due, WindLawyer::new, call, new int[] {0}, WindLawyer.BAD, Due.BAD);
        }
        due.sentence("on an island without users");
        RefusalsTest.leavesAll(due, WindLawyer::new, "suit", new int[] {0, 0}, WindLawyer.BAD, Due.BAD);
        RefusalsTest.leavesAll(due, WindLawyer::new, "of", new int[] {0, 0}, WindLawyer.BAD, Due.BAD);
        RefusalsTest.leavesAll(due, WindLawyer::new, "about", new int[] {0, 0}, WindLawyer.BAD, Due.BAD);
        RefusalsTest.leavesAll(due, WindLawyer::new, "takes", new int[] {0, 0}, WindLawyer.BAD, Due.BAD);
        RefusalsTest.leavesAll(due, WindLawyer::new, "then", new int[] {0, 0}, WindLawyer.BAD, Due.BAD);
        RefusalsTest.leavesAll(due, WindLawyer::new, "calms", new int[] {0, 0, 0}, WindLawyer.BAD, Due.BAD);
        RefusalsTest.leavesAll(due, WindLawyer::new, "note", new int[] {0, 1, 0, 0, 0}, WindLawyer.BAD, Due.BAD);
        RefusalsTest.leavesAll(due, WindLawyer::new, "mark", new int[] {0, 0, 0, 0}, WindLawyer.BAD, Due.BAD);
    }

    private static void allWrongAtOnce() {
        due.sentence("a call with several wrong numbers counts once");
        RefusalsTest.leavesAll(due, Twin::half, "wind", new int[] {8, 21, 2}, WindLawyer.BAD, Due.BAD);
        RefusalsTest.leavesAll(due, Twin::half, "user", new int[] {6, 12, 5}, WindLawyer.BAD, Due.BAD);
        RefusalsTest.leavesAll(due, Twin::half, "note", new int[] {-1, 5, -1, 21, 201}, WindLawyer.BAD, Due.BAD);
        RefusalsTest.leavesAll(due, Twin::half, "mark", new int[] {-1, -1, -1, -1}, WindLawyer.BAD, Due.BAD);
        RefusalsTest.leavesAll(due, Twin::half, "calms", new int[] {-1, 9, 11}, WindLawyer.BAD, Due.BAD);
    }
}
