/** Promises 8 to 14: each sentence that names an edge has a test of its own. RangesTest and RefusalsTest hold the numbers. */
public final class HoursEdgesTest {
    private static final Due due = new Due();

    public static void main(String[] args) {
        oneHourAndNinetyNine();
        hoursAreOneThatMayBeUndone();
        hoursWrapByEight();
        hoursWithoutUsers();
        theLastHourThatGoesBy();
        at9999NoneGoesBy();
        noneGoneByMayBeUndone();
        hour9999HasTheWindOf7();
        suitsAsTheyAreFiled();
        suitsOfTheSameUser();
        suitsOfTheFirstAndTheLastHour();
        plain();
        theft();
        damage();
        willIsCutUp();
        forgottenOf7And8Hours();
        shutterAt40();
        hearingWins();
        hearingOfNothing();
        hearingOnce();
        hearingOfTheLastSuit();
        payingIsNotWinning();
        payingNothing();
        payingOfTheLastUser();
        undoOfEach();
        undoEightAtMost();
        undoOfNone();
        undoGoesBackOnly();
        undoGivesBackAllUsersAndSuits();
        undoLeavesHeardWhatWasHeardBefore();
        undoLeavesMarks();
        undoLeavesReadingsAndNotes();
        undoLeavesTextFractionImages();
        whatIsNoneThatMayBeUndone();
        ofEachWhat();
        aboutEachWhat();
        due.end();
    }

    /** Strength 3 in all eight hours; a mill takes 1 an hour and owes 3. */
    private static WindLawyer mill() {
        return Due.told("island;winds 3 0 3 0 3 0 3 0 3 0 3 0 3 0 3 0;user 0 2 1;");
    }

    private static void oneHourAndNinetyNine() {
        due.sentence("Promise 8, n HOURS go by (1 .. 99)");
        WindLawyer x = mill();
        due.is("hour(1)", x.hour(1), 3);
        due.is("count(2)", x.count(2), 1);
        due.is("hour(99)", x.hour(99), 297);
        due.is("count(2)", x.count(2), 100);
        due.is("of(0, 3)", x.of(0, 3), 300);
        due.bad(x, "hour(0)", () -> x.hour(0));
        due.bad(x, "hour(100)", () -> x.hour(100));
    }

    private static void hoursAreOneThatMayBeUndone() {
        due.sentence("Promise 8, together one that may be undone");
        WindLawyer x = mill();
        x.hour(99);
        due.is("count(8)", x.count(8), 1);
        due.is("undo()", x.undo(), 0);
        due.is("of(0, 3)", x.of(0, 3), 0);
        due.no(x, "undo() again", x::undo);
    }

    private static void hoursWrapByEight() {
        due.sentence("HOUR h has that of h by 8 left over");
        WindLawyer x = Due.told("island;winds 3 0 0 0 0 0 0 0 0 0 0 0 0 0 6 0;user 0 0 1;");
        int[] rents = {3, 0, 0, 0, 0, 0, 0, 6, 3, 0, 0, 0, 0, 0, 0, 6, 3};
        for (int h = 0; h < rents.length; h++) {
            due.is("hour(1) from hour " + h, x.hour(1), rents[h]);
        }
    }

    private static void hoursWithoutUsers() {
        due.sentence("Promise 8, RENT of all in them: without USERS none");
        WindLawyer x = Due.told("island;winds 20 0;");
        due.is("hour(99)", x.hour(99), 0);
        due.is("count(2)", x.count(2), 99);
        due.is("count(8)", x.count(8), 1);
    }

    private static void theLastHourThatGoesBy() {
        due.sentence("HOURS have numbers, 9999 at most");
        WindLawyer x = mill();
        Twin.passTo(x, 9997);
        due.is("hour(1)", x.hour(1), 3);
        due.is("count(2)", x.count(2), 9998);
        due.is("hour(99), of which one goes by", x.hour(99), 3);
        due.is("count(2)", x.count(2), 9999);
        due.is("of(0, 3)", x.of(0, 3), 3 * 9999);
    }

    private static void at9999NoneGoesBy() {
        due.sentence("Promise 8, at 9999 none goes by");
        WindLawyer x = mill();
        Twin.passTo(x, 9999);
        due.is("hour(1)", x.hour(1), 0);
        due.is("hour(99)", x.hour(99), 0);
        due.is("count(2)", x.count(2), 9999);
        due.is("of(0, 3)", x.of(0, 3), 3 * 9999);
        due.is("no refusal", x.status(0) + x.status(1) + x.status(2), 0);
    }

    private static void noneGoneByMayBeUndone() {
        due.sentence("Promise 8, one that may be undone, also if none goes by");
        WindLawyer x = mill();
        Twin.passTo(x, 9999);
        x.wind(0, 3, 0);
        due.is("count(8)", x.count(8), 0);
        x.hour(5);
        due.is("count(8) behind none gone by", x.count(8), 1);
        due.is("undo()", x.undo(), 9999);
        due.no(x, "undo() again", x::undo);
    }

    private static void hour9999HasTheWindOf7() {
        due.sentence("HOUR h has that of h by 8 left over, at the last HOURS");
        // 9998 has the wind of 6; 9999 that of 7, and then goes on with that of 0.
        WindLawyer x = Due.told("island;winds 3 0 0 0 0 0 0 0 0 0 0 0 6 0 9 0;user 0 0 1;");
        Twin.passTo(x, 9998);
        due.is("then(0, 1) less then(0, 0)", x.then(0, 1) - x.then(0, 0), 6);
        due.is("hour(1) of 9998", x.hour(1), 6);
        due.is("then(0, 1) less then(0, 0)", x.then(0, 1) - x.then(0, 0), 9);
        due.is("then(0, 2) less then(0, 1)", x.then(0, 2) - x.then(0, 1), 3);
    }

    private static void suitsAsTheyAreFiled() {
        due.sentence("Promise 9, its number: 0 .. 4, as they are filed");
        WindLawyer x = mill();
        for (int s = 0; s < 5; s++) {
            due.is("suit(" + (5 - s) + ", 0)", x.suit(5 - s, 0), s);
        }
        due.full(x, "a 6th", () -> x.suit(0, 0));
        for (int s = 0; s < 5; s++) {
            due.is("about(" + s + ", 0)", x.about(s, 0), 5 - s);
        }
    }

    private static void suitsOfTheSameUser() {
        due.sentence("Promise 9, a USER: the first and the last");
        WindLawyer x = Twin.full();
        x.island();
        for (int u = 0; u < 7; u++) {
            x.user(0, 0, 1);
        }
        due.is("suit(0, 6)", x.suit(0, 6), 0);
        due.is("suit(0, 0)", x.suit(0, 0), 1);
        due.bad(x, "suit(0, 7)", () -> x.suit(0, 7));
        due.is("about(0, 1)", x.about(0, 1), 6);
        due.is("about(1, 1)", x.about(1, 1), 0);
    }

    private static void suitsOfTheFirstAndTheLastHour() {
        due.sentence("Promise 9, the HOUR of it");
        WindLawyer x = mill();
        x.suit(0, 0);
        Twin.passTo(x, 9999);
        x.suit(0, 0);
        due.is("about(0, 2)", x.about(0, 2), 0);
        due.is("about(1, 2)", x.about(1, 2), 9999);
        due.is("about(1, 3)", x.about(1, 3), 0);
    }

    /** What is awarded of a suit of a kind, age hours old, filed against a kite that owes those rents (4, 7, 10 or 13). */
    private static int awarded(int kind, int age, int... rents) {
        WindLawyer x = new WindLawyer();
        x.user(2, 0, 4);
        for (int rent : rents) {
            // It takes a third, cut up, and owes 3 for each and 1.
            x.wind(x.count(2) % 8, rent - 3, 0);
            due.is("rent", x.hour(1), rent);
            x.wind((x.count(2) - 1) % 8, 0, 0);
        }
        x.suit(kind, 0);
        Twin.passTo(x, x.count(2) + age);
        return x.hears(0);
    }

    private static void plain() {
        due.sentence("Promise 10, PLAIN: d");
        due.is("of 0", awarded(0, 0), 0);
        due.is("of 7, 9 hours old", awarded(0, 9, 7), 7);
    }

    private static void theft() {
        due.sentence("Promise 10, THEFT: twice PLAIN, without a limit");
        due.is("of 0", awarded(1, 0), 0);
        due.is("of 7, 9 hours old", awarded(1, 9, 7), 14);
        due.is("of 40", awarded(1, 0, 10, 10, 10, 10), 80);
    }

    private static void damage() {
        due.sentence("Promise 10, DAMAGE: PLAIN and a");
        due.is("of 0, 0 hours old", awarded(2, 0), 0);
        due.is("of 0, 99 hours old", awarded(2, 99), 99);
        due.is("of 7, 1 hour old", awarded(2, 1, 7), 8);
        due.is("of 7, 300 hours old", awarded(2, 300, 7), 307);
    }

    private static void willIsCutUp() {
        due.sentence("Promise 10, WILL: half (cut up) of PLAIN");
        due.is("of 0", awarded(3, 0), 0);
        due.is("of 4", awarded(3, 0, 4), 2);
        due.is("of 7", awarded(3, 0, 7), 4);
        due.is("of 13, 9 hours old", awarded(3, 9, 13), 7);
    }

    private static void forgottenOf7And8Hours() {
        due.sentence("Promise 10, FORGOTTEN: 0, if a is below 8");
        due.is("0 hours old", awarded(4, 0, 7), 0);
        due.is("7 hours old", awarded(4, 7, 7), 0);
        due.sentence("Promise 10, FORGOTTEN: else twice DAMAGE");
        due.is("8 hours old", awarded(4, 8, 7), 30);
        due.is("9 hours old", awarded(4, 9), 18);
    }

    private static void shutterAt40() {
        due.sentence("Promise 10, SHUTTER: THEFT, 40 at most");
        due.is("of 0", awarded(5, 0), 0);
        due.is("of 18", awarded(5, 0, 4, 4, 10), 36);
        due.is("of 20", awarded(5, 0, 10, 10), 40);
        due.is("of 21", awarded(5, 0, 7, 7, 7), 40);
        due.is("of 40", awarded(5, 0, 10, 10, 10, 10), 40);
    }

    private static void hearingWins() {
        due.sentence("Promise 10, what is AWARDED is WON (0 at first; in all); DUES are 0");
        WindLawyer x = mill();
        x.suit(1, 0);
        x.suit(2, 0);
        x.hour(2);
        due.is("count(4)", x.count(4), 0);
        due.is("hears(0)", x.hears(0), 12);
        due.is("of(0, 3)", x.of(0, 3), 0);
        due.is("count(4)", x.count(4), 12);
        x.hour(1);
        due.is("hears(1)", x.hears(1), 3 + 3);
        due.is("count(4)", x.count(4), 18);
    }

    private static void hearingOfNothing() {
        due.sentence("Promise 10, what is AWARDED may be nothing: it is heard");
        WindLawyer x = mill();
        x.suit(4, 0);
        x.hour(7);
        due.is("hears(0)", x.hears(0), 0);
        due.is("about(0, 3)", x.about(0, 3), 1);
        due.is("DUES are 0, though nothing is AWARDED", x.of(0, 3), 0);
        due.is("count(4)", x.count(4), 0);
        due.is("count(8)", x.count(8), 3);
    }

    private static void hearingOnce() {
        due.sentence("Promise 10, NO: it is heard");
        WindLawyer x = mill();
        x.suit(0, 0);
        x.hears(0);
        x.hour(5);
        due.no(x, "hears(0)", () -> x.hears(0));
        due.is("of(0, 3)", x.of(0, 3), 15);
        x.undo();
        x.undo();
        due.is("hears(0) behind undo", x.hears(0), 0);
    }

    private static void hearingOfTheLastSuit() {
        due.sentence("Promise 10, SUITS 0 .. 4: the last one");
        WindLawyer x = Twin.full();
        due.is("about(3, 1)", x.about(3, 1), 3);
        int dues = x.of(3, 3);
        due.is("hears(3)", x.hears(3), (dues + 1) / 2);
        due.no(x, "hears(4)", () -> x.hears(4));
        due.bad(x, "hears(5)", () -> x.hears(5));
        due.bad(x, "hears(-1)", () -> x.hears(-1));
    }

    private static void payingIsNotWinning() {
        due.sentence("Promise 11, DUES are 0, nothing is WON: how much");
        WindLawyer x = mill();
        x.hour(7);
        due.is("pays(0)", x.pays(0), 21);
        due.is("of(0, 3)", x.of(0, 3), 0);
        due.is("count(4)", x.count(4), 0);
    }

    private static void payingNothing() {
        due.sentence("Promise 11, how much: nothing, which may be undone, too");
        WindLawyer x = mill();
        due.is("pays(0)", x.pays(0), 0);
        due.is("count(8)", x.count(8), 1);
        due.is("undo()", x.undo(), 0);
    }

    private static void payingOfTheLastUser() {
        due.sentence("Promise 11, USERS 0 .. 6: the last one alone pays");
        WindLawyer x = Twin.full();
        int all = x.count(3);
        int dues = x.of(6, 3);
        due.is("it owes some", dues > 0 ? 1 : 0, 1);
        due.is("pays(6)", x.pays(6), dues);
        due.is("count(3)", x.count(3), all - dues);
        due.bad(x, "pays(7)", () -> x.pays(7));
    }

    private static void undoOfEach() {
        due.sentence("Promise 12, as ahead of the last HOURS gone by");
        WindLawyer x = mill();
        x.hour(3);
        long start = x.digest();
        x.hour(2);
        due.is("undo()", x.undo(), 3);
        due.is("digest", x.digest(), start);
        due.sentence("Promise 12, as ahead of the last SUIT filed");
        x.suit(1, 0);
        due.is("undo()", x.undo(), 3);
        due.is("digest", x.digest(), start);
        due.bad(x, "about(0, 0)", () -> x.about(0, 0));
        due.sentence("Promise 12, as ahead of the last SUIT heard");
        x.suit(1, 0);
        long filed = x.digest();
        x.hears(0);
        due.is("undo()", x.undo(), 3);
        due.is("digest", x.digest(), filed);
        due.sentence("Promise 12, as ahead of the last DUES paid");
        x.pays(0);
        due.is("undo()", x.undo(), 3);
        due.is("digest", x.digest(), filed);
    }

    private static void undoEightAtMost() {
        due.sentence("Promise 12, 8 at most");
        WindLawyer x = mill();
        for (int n = 1; n <= 8; n++) {
            x.hour(n);
            due.is("count(8)", x.count(8), n);
        }
        x.pays(0);
        due.is("count(8) behind a 9th", x.count(8), 8);
        x.suit(0, 0);
        due.is("count(8) behind a 10th", x.count(8), 8);
        int[] hours = {36, 36, 28, 21, 15, 10, 6, 3};
        for (int hour : hours) {
            due.is("undo()", x.undo(), hour);
        }
        due.is("the first two stay gone by", x.of(0, 3), 9);
        due.no(x, "a 9th undo()", x::undo);
        due.is("count(2)", x.count(2), 3);
    }

    private static void undoOfNone() {
        due.sentence("Promise 12, NO: none may be");
        WindLawyer x = mill();
        due.no(x, "undo()", x::undo);
        due.no(x, "undo() again", x::undo);
    }

    private static void undoGoesBackOnly() {
        due.sentence("Promise 12, what was undone is gone: UNDO itself may not be undone");
        WindLawyer x = mill();
        x.hour(1);
        x.hour(2);
        x.undo();
        due.is("count(8)", x.count(8), 1);
        x.hour(5);
        due.is("count(8)", x.count(8), 2);
        due.is("undo()", x.undo(), 1);
        due.is("undo()", x.undo(), 0);
        due.no(x, "undo() of no more", x::undo);
    }

    private static void undoGivesBackAllUsersAndSuits() {
        due.sentence("Promise 12, DUES of the first and the last USER, heard of the first and the last SUIT");
        WindLawyer x = Twin.full();
        x.hears(0);
        x.pays(6);
        x.pays(0);
        x.hour(1);
        WindLawyer y = Twin.full();
        due.is("undo()", x.undo(), y.count(2));
        due.is("of(6, 3)", x.of(6, 3), 0);
        due.is("of(0, 3)", x.of(0, 3), 0);
        x.undo();
        due.is("of(0, 3)", x.of(0, 3), y.of(0, 3));
        due.is("of(6, 3)", x.of(6, 3), 0);
        x.undo();
        x.undo();
        for (int u = 0; u < 7; u++) {
            due.is("of(" + u + ", 3)", x.of(u, 3), y.of(u, 3));
        }
        for (int s = 0; s < 5; s++) {
            due.is("about(" + s + ", 3)", x.about(s, 3), s == 4 ? 1 : 0);
        }
        due.is("count(4)", x.count(4), y.count(4));
        x.undo();
        due.is("about(4, 3) ahead of its hearing", x.about(4, 3), 0);
        due.is("count(4)", x.count(4), 0);
        x.undo();
        due.is("count(1)", x.count(1), 4);
    }

    private static void undoLeavesHeardWhatWasHeardBefore() {
        due.sentence("Promise 12, which SUITS are heard, what is WON, as ahead of it: not as at first");
        for (int heard = 0; heard < 5; heard++) {
            WindLawyer x = mill();
            for (int s = 0; s < 5; s++) {
                x.suit(0, 0);
            }
            x.hour(4);
            x.hears(heard);
            x.hour(1);
            x.undo();
            for (int s = 0; s < 5; s++) {
                due.is("about(" + s + ", 3), " + heard + " was heard", x.about(s, 3), s == heard ? 1 : 0);
            }
            due.is("count(4)", x.count(4), 12);
        }
    }

    private static void undoLeavesMarks() {
        due.sentence("Promise 12, MARKS stay");
        WindLawyer x = mill();
        x.suit(0, 0);
        x.mark(0, 10, 0, 20);
        x.undo();
        due.is("count(7)", x.count(7), 1);
        due.bad(x, "kinds(0) of a suit that is gone", () -> x.kinds(0));
        x.suit(3, 0);
        due.is("kinds(0) of the next of its number", x.kinds(0), 1 << 1 | 1 << 5);
    }

    private static void undoLeavesReadingsAndNotes() {
        due.sentence("Promise 12, READ ones and NOTES stay");
        WindLawyer x = mill();
        x.hour(1);
        x.reading(0, 0, 0);
        x.note(0, 1, 1, 1, 1);
        due.is("undo()", x.undo(), 0);
        due.is("count(5)", x.count(5), 1);
        due.is("count(6)", x.count(6), 1);
    }

    private static void undoLeavesTextFractionImages() {
        due.sentence("Promise 12, THE TEXT, THE FRACTION, IMAGES stay");
        WindLawyer x = mill();
        x.hour(1);
        x.type(65);
        x.calms(0, 1, 0);
        x.image(0);
        long kept = x.digest();
        x.undo();
        due.is("count(9)", x.count(9), 1);
        due.is("part(0)", x.part(0), 1);
        x.from(0);
        due.is("digest of the image", x.digest(), kept);
    }

    private static void whatIsNoneThatMayBeUndone() {
        due.sentence("Promise 12, no other call is one that may be undone, or ends those that may be");
        WindLawyer x = mill();
        x.suit(0, 0);
        x.reading(0, 0, 0);
        x.note(0, 1, 1, 1, 1);
        x.mark(0, 1, 1, 1);
        x.forget(0);
        x.forget(1);
        x.image(0);
        x.from(0);
        x.type(1);
        x.read();
        x.clear();
        x.share(0);
        x.calms(0, 1, 1);
        due.is("count(8)", x.count(8), 1);
    }

    private static void ofEachWhat() {
        due.sentence("Promise 13, KIND (0), CELL (1), HEIGHT (2), DUES (3)");
        WindLawyer x = Due.told("island;winds 9 1;user 5 11 4;user 0 0 1;hours 1;");
        // The church takes 6 of 9, so 9 has come back in cell 0: the mill takes 3.
        int[][] told = {{5, 11, 4, 19}, {0, 0, 1, 9}};
        for (int u = 0; u < 2; u++) {
            for (int what = 0; what < 4; what++) {
                due.is("of(" + u + ", " + what + ")", x.of(u, what), told[u][what]);
            }
        }
        due.bad(x, "of(0, 4)", () -> x.of(0, 4));
        due.bad(x, "of(0, -1)", () -> x.of(0, -1));
        due.bad(x, "of(2, 0)", () -> x.of(2, 0));
    }

    private static void aboutEachWhat() {
        due.sentence("Promise 14, KIND (0), USER (1), the HOUR it was filed (2), heard (3; 1, 0)");
        WindLawyer x = Due.told("island;user 0 0 1;user 0 0 1;hours 99;suit 5 1;hours 1;suit 0 0;");
        x.hears(1);
        int[][] told = {{5, 1, 99, 0}, {0, 0, 100, 1}};
        for (int s = 0; s < 2; s++) {
            for (int what = 0; what < 4; what++) {
                due.is("about(" + s + ", " + what + ")", x.about(s, what), told[s][what]);
            }
        }
        due.bad(x, "about(0, 4)", () -> x.about(0, 4));
        due.bad(x, "about(0, -1)", () -> x.about(0, -1));
        due.bad(x, "about(2, 0)", () -> x.about(2, 0));
    }
}
