/** Promises 24 to 35: each sentence that names an edge has a test of its own. RangesTest and RefusalsTest hold the numbers. */
public final class EvidenceEdgesTest {
    private static final Due due = new Due();

    public static void main(String[] args) {
        readingsFrom0To3();
        stoodWithoutUsers();
        stoodWithoutReadings();
        stoodOfNoSet();
        stoodOfOneSet();
        stoodOfTheEmptySet();
        stoodAllTheseWereSo();
        stoodLeftBehindACell();
        stoodInTheLastCellAndHour();
        stoodAllOthersAway();
        stoodOfSeven();
        notesFrom0To5();
        marksFrom0To5();
        marksOfASuitHeard();
        forgetOfNone();
        forgetEachAlone();
        forgetMakesRoom();
        isWithoutNotes();
        isOfNoKind();
        isAllNotesOfOne();
        isByTheHeightOfTheNote();
        isTookAndWasDue();
        lookOfAllKinds();
        lookOfNoKind();
        lookOfOneKind();
        lookByItsHeight();
        lookOfLikeOnesTheLeast();
        lookTakenAlikeButNotOwed();
        kindsWithoutMarks();
        kindsOfNoKind();
        kindsOfItsNumber();
        kindsAtTheEdges();
        triesOfAllKinds();
        triesOfNoKind();
        triesOfOneKind();
        triesOfSomeKinds();
        partiesNeither();
        partiesTheWindSues();
        partiesTheUserPays();
        partiesBothNever();
        partiesOfNone();
        partiesOfLikeOnes();
        partiesOfOneHeard();
        calmsOfNoHours();
        calmsOf8Hours();
        calmsOf0And10();
        calmsBeyond9999();
        calmsInLowestTerms();
        yearsOfNoHours();
        yearsOf60Hours();
        yearsWithoutUsers();
        yearsBySeedsAtTheEdges();
        yearsWrapAround();
        yearsAtTheEdgesOfX();
        due.end();
    }

    private static void readingsFrom0To3() {
        due.sentence("Promise 24, READ 0 .. 3: how many there are");
        WindLawyer x = new WindLawyer();
        for (int n = 1; n <= 4; n++) {
            due.is("reading " + n, x.reading(7, 11, 20), n);
        }
        due.full(x, "a fifth", () -> x.reading(7, 11, 20));
        due.is("count(5)", x.count(5), 4);
    }

    private static void stoodIs(WindLawyer x, int sets, int inAll, int inSome) {
        due.quiet(x, "stood(0)", () -> x.stood(0), sets);
        due.quiet(x, "stood(1)", () -> x.stood(1), inAll);
        due.quiet(x, "stood(2)", () -> x.stood(2), inSome);
    }

    private static void stoodWithoutUsers() {
        due.sentence("Promise 25, sets of USERS, where none are: the empty one");
        WindLawyer x = new WindLawyer();
        stoodIs(x, 1, 0, 0);
        x.wind(0, 9, 0);
        x.reading(0, 11, 9);
        stoodIs(x, 1, 0, 0);
        x.reading(0, 11, 8);
        stoodIs(x, 0, WindLawyer.NONE, 0);
    }

    private static void stoodWithoutReadings() {
        due.sentence("Promise 25, where nothing was READ all sets fit");
        stoodIs(Due.told("island;user 0 2 1;"), 2, 0, 1);
        stoodIs(Due.told("island;winds 9 0;" + "user 0 2 1;".repeat(7)), 128, 0, 127);
    }

    private static void stoodOfNoSet() {
        due.sentence("Promise 25, in all (1): NONE: no set; in some (2): none, also where there were some before");
        WindLawyer x = Due.told("island;winds 9 0;user 0 2 1;");
        stoodIs(x, 2, 0, 1);
        x.reading(0, 2, 7);
        stoodIs(x, 0, WindLawyer.NONE, 0);
    }

    private static void stoodOfOneSet() {
        due.sentence("Promise 25, one set: in all and in some are alike");
        WindLawyer x = Due.told("island;winds 9 0;user 0 2 1;user 3 5 1;user 0 11 1;");
        x.reading(0, 2, 6);
        x.reading(0, 5, 9);
        x.reading(0, 11, 6);
        stoodIs(x, 1, 1 | 1 << 2, 1 | 1 << 2);
    }

    private static void stoodOfTheEmptySet() {
        due.sentence("Promise 25, the set of no USERS is one");
        WindLawyer x = Due.told("island;winds 9 0;user 0 2 1;user 3 5 1;");
        x.reading(0, 2, 9);
        x.reading(0, 5, 9);
        stoodIs(x, 1, 0, 0);
    }

    private static void stoodAllTheseWereSo() {
        due.sentence("Promise 25, by which all of these were so: the first and the last of four count");
        int[][] readings = {{0, 2, 9}, {0, 2, 6}};
        for (int last = 0; last < 2; last++) {
            WindLawyer x = Due.told("island;winds 9 0;user 0 2 1;");
            for (int i = 0; i < 4; i++) {
                int[] r = readings[i == 3 * last ? 0 : 1];
                x.reading(r[0], r[1], r[2]);
            }
            stoodIs(x, 0, WindLawyer.NONE, 0);
        }
        WindLawyer y = Due.told("island;winds 9 0;user 0 2 1;");
        for (int i = 0; i < 4; i++) {
            y.reading(0, 2, 6);
        }
        stoodIs(y, 1, 1, 1);
    }

    private static void stoodLeftBehindACell() {
        due.sentence("Promise 25, x was left behind CELL c (before it is 1 more)");
        WindLawyer x = Due.told("island;winds 9 0 9 1;user 0 5 1;");
        x.reading(0, 5, 6);
        stoodIs(x, 1, 1, 1);
        x.forget(0);
        x.reading(0, 6, 7);
        stoodIs(x, 1, 1, 1);
        x.forget(0);
        x.reading(0, 4, 9);
        stoodIs(x, 2, 0, 1);
        x.forget(0);
        x.reading(1, 4, 7);
        stoodIs(x, 1, 1, 1);
    }

    private static void stoodInTheLastCellAndHour() {
        due.sentence("Promise 24, an hour of the day h (0 .. 7), x (0 .. 20), CELL 0 .. 11: the most of each");
        WindLawyer x = new WindLawyer();
        x.user(3, 11, 1);
        x.wind(7, 20, 0);
        due.is("reading(7, 11, 20)", x.reading(7, 11, 20), 1);
        stoodIs(x, 1, 0, 0);
        x.forget(0);
        x.reading(7, 11, 19);
        stoodIs(x, 1, 1, 1);
        x.forget(0);
        x.reading(0, 0, 0);
        stoodIs(x, 2, 0, 1);
    }

    private static void stoodAllOthersAway() {
        due.sentence("Promise 25, all others away");
        // Of 9 the mills take 3, 2, 2: behind them 6, 4, 2, whichever of them stand.
        WindLawyer x = Due.told("island;winds 9 0;user 0 2 1;user 0 2 1;user 0 2 1;");
        x.reading(0, 2, 4);
        stoodIs(x, 3, 0, 7);
        x.forget(0);
        x.reading(0, 2, 2);
        stoodIs(x, 1, 7, 7);
    }

    private static void stoodOfSeven() {
        due.sentence("Promise 25, USERS 0 .. 6 as bits");
        WindLawyer x = Due.told("island;winds 9 0;" + "user 0 2 1;".repeat(6) + "user 3 11 1;");
        x.reading(0, 11, 8);
        x.reading(0, 2, 9);
        stoodIs(x, 1, 64, 64);
    }

    private static void notesFrom0To5() {
        due.sentence("Promise 26, NOTES 0 .. 5: how many there are");
        WindLawyer x = new WindLawyer();
        x.user(0, 0, 1);
        for (int n = 1; n <= 6; n++) {
            due.is("note " + n, x.note(0, 4, 20, 20, 200), n);
        }
        due.full(x, "a 7th", () -> x.note(0, 4, 20, 20, 200));
        due.is("count(6)", x.count(6), 6);
    }

    private static void marksFrom0To5() {
        due.sentence("Promise 27, MARKS 0 .. 5: how many there are");
        WindLawyer x = Due.told("island;user 0 0 1;suit 0 0;");
        for (int n = 1; n <= 6; n++) {
            due.is("mark " + n, x.mark(0, 200, 99, 999), n);
        }
        due.full(x, "a 7th", () -> x.mark(0, 200, 99, 999));
        due.is("count(7)", x.count(7), 6);
    }

    private static void marksOfASuitHeard() {
        due.sentence("Promise 27, a SUIT heard or not");
        WindLawyer x = Due.told("island;user 0 0 1;suit 0 0;");
        x.hears(0);
        due.is("mark(0, 10, 0, 20)", x.mark(0, 10, 0, 20), 1);
        due.is("kinds(0)", x.kinds(0), 1 << 1 | 1 << 5);
    }

    private static void forgetOfNone() {
        due.sentence("Promise 28, how many there were: none");
        WindLawyer x = new WindLawyer();
        for (int what = 0; what < 3; what++) {
            int w = what;
            due.quiet(x, "forget(" + what + ")", () -> x.forget(w), 0);
        }
    }

    private static void forgetEachAlone() {
        due.sentence("Promise 28, no READ ones (0), NOTES (1), MARKS (2): each leaves the others");
        int[] all = {4, 6, 6};
        for (int what = 0; what < 3; what++) {
            WindLawyer x = Twin.full();
            due.is("forget(" + what + ")", x.forget(what), all[what]);
            for (int other = 0; other < 3; other++) {
                due.is("count(" + (5 + other) + ")", x.count(5 + other), other == what ? 0 : all[other]);
            }
            due.is("count(8)", x.count(8), 8);
        }
    }

    private static void forgetMakesRoom() {
        due.sentence("Promise 28, behind it there are none, so others may come");
        WindLawyer x = Twin.full();
        x.forget(0);
        x.forget(1);
        x.forget(2);
        due.is("reading(0, 0, 0)", x.reading(0, 0, 0), 1);
        due.is("note(0, 1, 0, 0, 0)", x.note(0, 1, 0, 0, 0), 1);
        due.is("mark(0, 0, 0, 0)", x.mark(0, 0, 0, 0), 1);
    }

    private static void isWithoutNotes() {
        due.sentence("Promise 29, KINDS as bits: without NOTES all");
        WindLawyer x = Due.told("island;user 0 0 1;user 5 0 1;");
        due.quiet(x, "is(0)", () -> x.is(0), 63);
        x.note(0, 1, 0, 1, 0);
        due.quiet(x, "is(1), the notes are of another", () -> x.is(1), 63);
    }

    private static void isOfNoKind() {
        due.sentence("Promise 29, KINDS as bits: none");
        WindLawyer x = Due.told("island;user 0 0 1;");
        x.note(0, 1, 0, 1, 3);
        due.quiet(x, "is(0), taken of no wind", () -> x.is(0), 0);
    }

    private static void isAllNotesOfOne() {
        due.sentence("Promise 29, all NOTES of one: the first and the last of six count");
        for (int other = 0; other < 6; other += 5) {
            WindLawyer x = Due.told("island;user 0 0 1;user 0 0 1;");
            for (int i = 0; i < 6; i++) {
                x.note(0, 1, 20, i == other ? 3 : 7, i == other ? 9 : 21);
            }
            due.is("is(0), note " + other + " another", x.is(0), 0);
            due.is("is(1)", x.is(1), 63);
        }
    }

    private static void isByTheHeightOfTheNote() {
        due.sentence("Promise 29, a USER of HEIGHT h (1 .. 4) TOOK: of the NOTE, not of the USER");
        WindLawyer x = Due.told("island;user 0 0 1;");
        x.note(0, 4, 20, 4, 13);
        due.is("is(0), a kite of height 4", x.is(0), 1 << 2);
        x.note(0, 3, 20, 3, 10);
        due.is("is(0), and one of height 3", x.is(0), 1 << 2);
        x.note(0, 1, 20, 4, 13);
        due.is("is(0), which takes 1 of height 1", x.is(0), 0);
    }

    private static void isTookAndWasDue() {
        due.sentence("Promise 29, TOOK t of s, r was due: both are so");
        int[][] notes = {{1, 0, 0, 0, 63}, {1, 1, 1, 3, 1}, {1, 1, 1, 4, 36}, {1, 1, 1, 0, 8}, {1, 1, 1, 6, 16}, {1, 1, 0, 0, 2},
            {1, 1, 1, 2, 0}, {1, 1, 0, 3, 0}, {4, 20, 8, 25, 32}, {4, 20, 8, 24, 0}, {4, 20, 7, 42, 16}, {4, 20, 7, 21, 1},
            {4, 20, 3, 9, 2}, {4, 20, 4, 13, 4}, {4, 20, 1, 0, 8}, {4, 20, 20, 200, 0}};
        for (int[] n : notes) {
            WindLawyer x = Due.told("island;user 0 0 1;");
            x.note(0, n[0], n[1], n[2], n[3]);
            due.is("is(0) by height " + n[0] + ", " + n[2] + " of " + n[1] + ", " + n[3] + " due", x.is(0), n[4]);
        }
    }

    private static void lookOfAllKinds() {
        due.sentence("Promise 30, the wind by which the most of these KINDS that TAKE, owe alike are fewest: of all");
        // Of height 1 no two are alike of 2; of 1 the kite and the church are.
        WindLawyer x = Due.told("island;user 0 0 1;");
        due.quiet(x, "look(0)", () -> x.look(0), 2);
    }

    private static void lookOfNoKind() {
        due.sentence("Promise 30, none: no KIND");
        WindLawyer x = Due.told("island;user 0 0 1;");
        x.note(0, 1, 0, 1, 3);
        due.quiet(x, "look(0)", () -> x.look(0), WindLawyer.NONE);
    }

    private static void lookOfOneKind() {
        due.sentence("Promise 30, of like ones the least: one KIND");
        WindLawyer x = Due.told("island;user 0 0 1;");
        x.note(0, 1, 20, 7, 21);
        due.is("is(0)", x.is(0), 1);
        due.quiet(x, "look(0)", () -> x.look(0), 0);
    }

    private static void lookByItsHeight() {
        due.sentence("Promise 30, by its HEIGHT (1 .. 4)");
        for (int height = 1; height <= 4; height++) {
            WindLawyer x = new WindLawyer();
            x.user(0, 0, height);
            due.is("look(0) of all, of height " + height, x.look(0), 2);
            x.note(0, 1, 1, 1, 4);
            // A kite or a church take alike of 1; of 2, whatever their height, 1 and 2.
            due.is("look(0) of a kite or a church, of height " + height, x.look(0), 2);
        }
    }

    private static void lookOfLikeOnesTheLeast() {
        due.sentence("Promise 30, of like ones the least: of no wind all KINDS TAKE and owe nothing");
        WindLawyer x = Due.told("island;user 0 0 1;");
        x.note(0, 1, 0, 0, 0);
        due.is("is(0)", x.is(0), 63);
        due.is("look(0), all differ by 2 and by more", x.look(0), 2);
    }

    private static void lookTakenAlikeButNotOwed() {
        due.sentence("Promise 30, KINDS that TAKE, owe alike: both");
        WindLawyer x = Due.told("island;user 0 0 1;");
        // Of 1 the mill 1 and 3, the kite 1 and 4, the church 1 and 4, the clipper 1 and 6, the washing 1 and 0, the sail nothing.
        x.note(0, 1, 1, 1, 4);
        due.is("is(0)", x.is(0), 1 << 2 | 1 << 5);
        due.is("look(0)", x.look(0), 2);
        x.note(0, 1, 2, 2, 7);
        due.is("is(0)", x.is(0), 1 << 5);
        due.is("look(0)", x.look(0), 0);
    }

    private static void kindsWithoutMarks() {
        due.sentence("Promise 31, KINDS of SUITS (bits): without MARKS all");
        WindLawyer x = Due.told("island;user 0 0 1;suit 5 0;suit 0 0;");
        due.quiet(x, "kinds(0)", () -> x.kinds(0), 63);
        x.mark(0, 0, 0, 1);
        due.quiet(x, "kinds(1), the marks are of another", () -> x.kinds(1), 63);
    }

    private static void kindsOfNoKind() {
        due.sentence("Promise 31, KINDS of SUITS (bits): none");
        WindLawyer x = Due.told("island;user 0 0 1;suit 0 0;");
        x.mark(0, 0, 0, 1);
        due.quiet(x, "kinds(0)", () -> x.kinds(0), 0);
    }

    private static void kindsOfItsNumber() {
        due.sentence("Promise 31, all MARKS of one (of its number): the first and the last of six count");
        for (int other = 0; other < 6; other += 5) {
            WindLawyer x = Due.told("island;user 0 0 1;suit 0 0;suit 0 0;");
            for (int i = 0; i < 6; i++) {
                x.mark(1, 10, 0, i == other ? 20 : 10);
            }
            due.is("kinds(1), mark " + other + " another", x.kinds(1), 0);
            due.is("kinds(0)", x.kinds(0), 63);
        }
    }

    private static void kindsAtTheEdges() {
        due.sentence("Promise 31, was AWARDED x, by DUES d, a HOURS old");
        int[][] marks = {{0, 0, 0, 63}, {0, 7, 0, 59}, {0, 7, 7, 4}, {0, 8, 16, 16}, {0, 8, 0, 43}, {0, 8, 8, 4}, {1, 0, 1, 13},
            {1, 0, 2, 34}, {2, 0, 1, 8}, {3, 0, 2, 8}, {19, 0, 38, 34}, {20, 0, 40, 34}, {21, 0, 40, 32}, {21, 0, 42, 2},
            {200, 99, 598, 16}, {200, 99, 299, 4}, {200, 99, 400, 2}, {200, 99, 100, 8}, {200, 99, 200, 1}, {200, 99, 40, 32},
            {200, 99, 999, 0}, {199, 0, 100, 8}};
        for (int[] m : marks) {
            WindLawyer x = Due.told("island;user 0 0 1;suit 0 0;");
            x.mark(0, m[0], m[1], m[2]);
            due.is("kinds(0) by " + m[0] + ", " + m[1] + " hours old, " + m[2], x.kinds(0), m[3]);
        }
    }

    private static void triesOfAllKinds() {
        due.sentence("Promise 32, 10 d and a by which the most of these KINDS that AWARD alike are fewest: of all");
        // 40 at most tells a shutter from a theft by dues 21 first; a damage differs from a plain one an hour old first.
        WindLawyer x = Due.told("island;user 0 0 1;suit 0 0;");
        due.quiet(x, "tries(0)", () -> x.tries(0), 211);
    }

    private static void triesOfNoKind() {
        due.sentence("Promise 32, none: no KIND");
        WindLawyer x = Due.told("island;user 0 0 1;suit 0 0;");
        x.mark(0, 0, 0, 1);
        due.quiet(x, "tries(0)", () -> x.tries(0), WindLawyer.NONE);
    }

    private static void triesOfOneKind() {
        due.sentence("Promise 32, of like ones the least: one KIND");
        WindLawyer x = Due.told("island;user 0 0 1;suit 0 0;");
        x.mark(0, 21, 0, 42);
        due.is("kinds(0)", x.kinds(0), 2);
        due.quiet(x, "tries(0)", () -> x.tries(0), 0);
    }

    private static void triesIs(int dues, int age, int award, int kinds, int number) {
        WindLawyer x = Due.told("island;user 0 0 1;suit 0 0;");
        x.mark(0, dues, age, award);
        String mark = " by " + award + " of " + dues + ", " + age + " hours old";
        due.is("kinds(0)" + mark, x.kinds(0), kinds);
        due.is("tries(0)" + mark, x.tries(0), number);
    }

    private static void triesOfSomeKinds() {
        due.sentence("Promise 32, 10 d and a: no dues, some hours old");
        triesIs(10, 0, 10, 1 | 1 << 2, 1);
        triesIs(30, 10, 40, 1 << 2 | 1 << 5, 1);
        due.sentence("Promise 32, 10 d and a: some dues, no hours old");
        triesIs(40, 1, 40, 1 | 1 << 5, 10);
        triesIs(10, 0, 20, 1 << 1 | 1 << 5, 210);
        triesIs(5, 5, 10, 1 << 1 | 1 << 2 | 1 << 5, 210);
        triesIs(0, 7, 0, 63 - 4, 210);
        triesIs(0, 8, 0, 1 | 1 << 1 | 1 << 3 | 1 << 5, 210);
        due.sentence("Promise 32, 10 d and a: both");
        triesIs(40, 0, 40, 1 | 1 << 2 | 1 << 5, 12);
        triesIs(1, 0, 1, 1 | 1 << 2 | 1 << 3, 21);
        triesIs(0, 0, 0, 63, 211);
    }

    /** A mill that owes dues (3 each hour of wind), then a suit of a kind that is so many hours old. */
    private static WindLawyer suit(int kind, int dues, int age) {
        WindLawyer x = new WindLawyer();
        x.user(0, 0, 1);
        for (int d = 0; d < dues; d += 3) {
            x.wind(x.count(2) % 8, 1, 0);
            x.hour(1);
            x.wind((x.count(2) - 1) % 8, 0, 0);
        }
        x.suit(kind, 0);
        if (age > 0) {
            x.hour(age);
        }
        return x;
    }

    private static void partiesAre(int kind, int dues, int age, int bits) {
        WindLawyer x = suit(kind, dues, age);
        due.quiet(x, "parties of kind " + kind + ", " + dues + " due, " + age + " hours old", () -> x.parties(0), bits);
    }

    private static void partiesNeither() {
        due.sentence("Promise 33, bit 0: neither; 5 less, if it sues");
        partiesAre(0, 3, 0, 1);
        partiesAre(4, 12, 7, 1);
    }

    private static void partiesTheWindSues() {
        due.sentence("Promise 33, bit 1: the wind sues");
        partiesAre(0, 6, 0, 2);
        partiesAre(3, 12, 0, 2);
        partiesAre(5, 42, 0, 2);
    }

    private static void partiesTheUserPays() {
        due.sentence("Promise 33, bit 2: the USER pays, which it does of nothing due");
        partiesAre(2, 0, 6, 4);
        partiesAre(2, 0, 5, 1 | 4);
    }

    private static void partiesBothNever() {
        due.sentence("Promise 33, bit 3: paid, nothing is AWARDED, so the wind never sues, too");
        for (int kind = 0; kind < 6; kind++) {
            for (int dues = 0; dues <= 12; dues += 3) {
                due.is("bit 3 of kind " + kind + ", " + dues + " due", suit(kind, dues, 9).parties(0) & 8, 0);
            }
        }
    }

    private static void partiesOfNone() {
        due.sentence("Promise 33, no pair rests");
        // The theft of 3 wins 6: the wind would sue, so the user would pay, so the wind would not sue, so it would not pay.
        partiesAre(1, 3, 0, 0);
        partiesAre(2, 3, 3, 0);
    }

    private static void partiesOfLikeOnes() {
        due.sentence("Promise 33, neither would get more by doing otherwise: as much is not more");
        // A will of 9 wins 5, which suing costs: the wind gets 0 by both.
        partiesAre(3, 9, 0, 1 | 2);
        partiesAre(0, 0, 0, 1 | 4);
    }

    private static void partiesOfOneHeard() {
        due.sentence("Promise 33, NO: it is heard");
        WindLawyer x = suit(0, 6, 0);
        x.hears(0);
        due.no(x, "parties(0)", () -> x.parties(0));
        due.bad(x, "parties(1)", () -> x.parties(1));
        x.undo();
        due.is("parties(0), its hearing undone", x.parties(0), 2);
    }

    private static void calmsAre(WindLawyer x, int n, int c, long above, long below) {
        String call = "calms(0, " + n + ", " + c + ")";
        due.is(call, x.calms(0, n, c), 1);
        due.is(call + ": part(0)", x.part(0), above);
        due.is(call + ": part(1)", x.part(1), below);
    }

    private static WindLawyer eightWinds() {
        return Due.told("island;winds 1 0 4 0 7 0 10 0 13 0 16 0 19 0 3 0;user 0 5 1;");
    }

    private static void calmsOfNoHours() {
        due.sentence("Promise 34, in the next n (0 .. 8) HOURS: none");
        WindLawyer x = eightWinds();
        calmsAre(x, 8, 0, 29, 1);
        calmsAre(x, 0, 0, 0, 1);
        calmsAre(x, 0, 10, 0, 1);
        calmsAre(x, 1, 0, 1, 1);
    }

    private static void calmsOf8Hours() {
        due.sentence("Promise 34, in the next n (0 .. 8) HOURS: 8");
        WindLawyer x = eightWinds();
        calmsAre(x, 8, 0, 29, 1);
        calmsAre(x, 7, 0, 28, 1);
        x.hour(6);
        calmsAre(x, 2, 0, 8, 1);
        calmsAre(x, 3, 0, 9, 1);
        calmsAre(x, 8, 5, 29, 2);
        due.bad(x, "calms(0, 9, 5)", () -> x.calms(0, 9, 5));
    }

    private static void calmsOf0And10() {
        due.sentence("Promise 34, by c of 10 (0 .. 10): never, always");
        WindLawyer x = eightWinds();
        calmsAre(x, 8, 0, 29, 1);
        calmsAre(x, 8, 1, 261, 10);
        calmsAre(x, 8, 9, 29, 10);
        calmsAre(x, 8, 10, 0, 1);
        due.bad(x, "calms(0, 8, 11)", () -> x.calms(0, 8, 11));
        due.is("part(1) behind a refusal", x.part(1), 1);
    }

    private static void calmsBeyond9999() {
        due.sentence("Promise 34, HOURS go beyond 9999");
        WindLawyer x = eightWinds();
        Twin.passTo(x, 9999);
        due.is("count(2)", x.count(2), 9999);
        calmsAre(x, 1, 0, 1, 1);
        calmsAre(x, 3, 0, 1 + 1 + 2, 1);
        calmsAre(x, 8, 5, 29, 2);
    }

    private static void calmsInLowestTerms() {
        due.sentence("THE FRACTION: lowest terms");
        WindLawyer x = Due.told("island;winds 10 0 16 0;user 0 5 1;");
        calmsAre(x, 1, 5, 2, 1);
        calmsAre(x, 1, 4, 12, 5);
        calmsAre(x, 2, 9, 1, 1);
        calmsAre(x, 2, 8, 2, 1);
    }

    private static void yearsOfNoHours() {
        due.sentence("Promise 35, n (0 .. 60) HOURS: none");
        WindLawyer x = Due.told("island;user 0 2 1;");
        due.quiet(x, "years(999999, 0)", () -> x.years(999999, 0), 0);
        due.quiet(x, "years(0, 0)", () -> x.years(0, 0), 0);
    }

    /** X by its rule, told with plain long numbers: they stay below 2 to the power of 63. */
    private static int rentOfYears(int seed, int n) {
        long x = seed;
        int rent = 0;
        for (int i = 0; i < n; i++) {
            x = (x * 1103515245L + 12345L) % (1L << 31);
            int strength = (int) (x / 65536 % 21);
            // A lone mill takes a third, cut up, from either side.
            rent += (strength + 2) / 3 * 3;
        }
        return rent;
    }

    private static void yearsOf60Hours() {
        due.sentence("Promise 35, n (0 .. 60) HOURS: 60");
        WindLawyer x = Due.told("island;user 0 2 1;");
        due.quiet(x, "years(1, 60)", () -> x.years(1, 60), rentOfYears(1, 60));
        due.bad(x, "years(1, 61)", () -> x.years(1, 61));
        due.is("more than of 59", x.years(1, 60) - x.years(1, 59), rentOfYears(1, 60) - rentOfYears(1, 59));
    }

    private static void yearsWithoutUsers() {
        due.sentence("Promise 35, RENT of all in all of them: without USERS none");
        WindLawyer x = Due.told("island;winds 20 0;");
        due.quiet(x, "years(5, 60)", () -> x.years(5, 60), 0);
    }

    private static void yearsBySeedsAtTheEdges() {
        due.sentence("Promise 35, a SEED (0 .. 999999)");
        WindLawyer x = Due.told("island;winds 20 0;user 0 2 1;hours 9;");
        int[] seeds = {0, 1, 999998, 999999};
        for (int seed : seeds) {
            for (int n = 1; n <= 10; n++) {
                due.is("years(" + seed + ", " + n + ")", x.years(seed, n), rentOfYears(seed, n));
            }
        }
        due.bad(x, "years(1000000, 1)", () -> x.years(1000000, 1));
        due.bad(x, "years(-1, 1)", () -> x.years(-1, 1));
    }

    private static void yearsWrapAround() {
        due.sentence("Promise 35, by 2147483648 what is left over; its STRENGTH by 21, its side by 2 left over");
        // Seed 0: X is 12345, a wind of 0; 1406932606: 21468 by 65536, so 6, and 1341, so from the other side; 654583775: 9988, so 13.
        WindLawyer x = Due.told("island;user 5 0 4;user 0 1 1;user 4 11 1;");
        due.is("years(0, 1)", x.years(0, 1), 0);
        // Of 6 from the other side: the clipper 2, then in cell 1 the mill 2 of 6, the church 4 of 5.
        due.is("years(0, 2)", x.years(0, 2), 12 + 6 + 13);
        // 654583775 by 1048576 is 624, so of 13 from 0 on: the church 8, the mill 2 of 6, the clipper 3 of 13 in cell 11.
        due.is("years(0, 3)", x.years(0, 3), 31 + 25 + 6 + 18);
    }

    private static void yearsAtTheEdgesOfX() {
        due.sentence("Promise 35, X by 65536 (cut), by 21 left over; X by 1048576 (cut), by 2 left over");
        // Of each seed the first X by 65536 leaves 0 or 65535, or by 1048576 as little or as much as can be.
        int[][] seeds = {{501379, 18, 1}, {829059, 20, 1}, {637726, 20, 1}, {768798, 14, 1}, {763523, 19, 0}, {572190, 19, 0},
            {42627, 1, 1}, {894595, 13, 1}, {703262, 13, 0}, {899870, 0, 0}, {15857, 19, 1}, {26518, 19, 1}, {25493, 20, 1},
            {1403, 19, 0}};
        String users = "user 5 0 4;user 0 1 1;user 4 11 1;user 0 11 1;";
        for (int[] s : seeds) {
            WindLawyer x = Due.told("island;" + users);
            WindLawyer y = Due.told("island;winds " + s[1] + " " + s[2] + ";" + users);
            due.is("years(" + s[0] + ", 1)", x.years(s[0], 1), y.hour(1));
        }
    }
}
