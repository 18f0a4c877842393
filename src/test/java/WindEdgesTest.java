/** Promises 15 to 20: each sentence that names an edge has a test of its own. RangesTest and RefusalsTest hold the numbers. */
public final class WindEdgesTest {
    private static final Due due = new Due();

    public static void main(String[] args) {
        mill();
        sail();
        kite();
        washing();
        clipper();
        church();
        rents();
        noWindAtAll();
        noUsersAtAll();
        fromItsSideOn();
        oneMoreBehindACell();
        strengthAtMost();
        strengthOf1();
        ahead();
        usersTakeByNumbers();
        nothingIsLeftForTheNext();
        windOfEachHourOfTheDay();
        thenOfNoHours();
        thenOf99Hours();
        thenBeyond9999();
        thenNoSuitHeard();
        calmNow();
        calmInSeven();
        calmOfNone();
        calmBeyond9999();
        placeWithoutUsers();
        placeNoLess();
        placeOfLikeOnesTheLeast();
        placeInTheLastCell();
        placeHowMuchLess();
        placeOfAWholeDay();
        placeBesideSix();
        shareOfOne();
        shareOfNothing();
        shareBelow0();
        shareOfSeven();
        shareInLowestTerms();
        shareRefused();
        due.end();
    }

    /** What a lone user takes of a wind, in whose cell nothing was taken before. */
    private static int taken(int kind, int height, int s) {
        WindLawyer x = new WindLawyer();
        x.user(kind, 0, height);
        x.wind(0, s, 0);
        return x.takes(0, 0);
    }

    private static void takes(int kind, int height, int... windsAndTaken) {
        for (int i = 0; i < windsAndTaken.length; i += 2) {
            due.is("kind " + kind + " of height " + height + " of " + windsAndTaken[i],
                    taken(kind, height, windsAndTaken[i]), windsAndTaken[i + 1]);
        }
    }

    private static void mill() {
        due.sentence("Promise 16, MILL: a third (cut up) of s");
        for (int height = 1; height <= 4; height++) {
            takes(0, height, 0, 0, 1, 1, 2, 1, 3, 1, 4, 2, 6, 2, 7, 3, 18, 6, 19, 7, 20, 7);
        }
    }

    private static void sail() {
        due.sentence("Promise 16, SAIL: half (cut) of MILL");
        takes(1, 4, 0, 0, 1, 0, 3, 0, 4, 1, 9, 1, 10, 2, 15, 2, 16, 3, 20, 3);
    }

    private static void kite() {
        due.sentence("Promise 16, KITE: as MILL, h at most");
        takes(2, 1, 0, 0, 1, 1, 3, 1, 4, 1, 20, 1);
        takes(2, 2, 3, 1, 4, 2, 6, 2, 7, 2);
        takes(2, 4, 9, 3, 10, 4, 12, 4, 13, 4, 20, 4);
    }

    private static void washing() {
        due.sentence("Promise 16, WASHING: 1, if s is 1 or more, else 0");
        takes(3, 1, 0, 0, 1, 1, 20, 1);
        takes(3, 4, 0, 0, 1, 1, 20, 1);
    }

    private static void clipper() {
        due.sentence("Promise 16, CLIPPER: h more than SAIL, s at most");
        takes(4, 1, 0, 0, 1, 1, 3, 1, 4, 2, 20, 4);
        takes(4, 4, 0, 0, 1, 1, 3, 3, 4, 4, 5, 5, 6, 5, 20, 7);
    }

    private static void church() {
        due.sentence("Promise 16, CHURCH: twice KITE, s at most");
        takes(5, 1, 0, 0, 1, 1, 2, 2, 3, 2, 4, 2, 20, 2);
        takes(5, 2, 3, 2, 4, 4, 5, 4, 7, 4);
        takes(5, 4, 1, 1, 10, 8, 20, 8);
    }

    private static void rent(int kind, int height, int s, int due) {
        WindLawyer x = new WindLawyer();
        x.user(kind, 0, height);
        x.wind(0, s, 0);
        WindEdgesTest.due.is("kind " + kind + " of height " + height + " of " + s, x.hour(1), due);
    }

    private static void rents() {
        due.sentence("RENT of a MILL and a SAIL: 3 t");
        rent(0, 1, 0, 0);
        rent(0, 1, 1, 3);
        rent(0, 1, 20, 21);
        rent(1, 1, 3, 0);
        rent(1, 1, 4, 3);
        rent(1, 1, 20, 9);
        due.sentence("RENT of a KITE: MILL and 1, if t is 1 or more, else as MILL");
        rent(2, 4, 0, 0);
        rent(2, 4, 1, 4);
        rent(2, 4, 20, 13);
        due.sentence("RENT of a WASHING: 0");
        rent(3, 1, 0, 0);
        rent(3, 1, 20, 0);
        due.sentence("RENT of a CLIPPER: twice SAIL");
        rent(4, 1, 0, 0);
        rent(4, 1, 1, 6);
        rent(4, 4, 20, 42);
        due.sentence("RENT of a CHURCH: as KITE");
        rent(5, 1, 0, 0);
        rent(5, 1, 1, 4);
        rent(5, 4, 20, 25);
    }

    private static void noWindAtAll() {
        due.sentence("Promise 15, a STRENGTH of 0 stays 0: its STRENGTH at most");
        WindLawyer x = Due.told("island;winds 0 0 0 1;user 4 3 4;");
        for (int c = 0; c < 12; c++) {
            for (int what = 0; what < 2; what++) {
                due.is("blows(" + c + ", 0, " + what + ")", x.blows(c, 0, what), 0);
                due.is("blows(" + c + ", 1, " + what + ")", x.blows(c, 1, what), 0);
            }
        }
        due.is("takes(0, 0)", x.takes(0, 0), 0);
    }

    private static void noUsersAtAll() {
        due.sentence("Promise 15, without USERS nothing is TAKEN");
        WindLawyer x = Due.told("island;winds 20 0 20 1;");
        for (int c = 0; c < 12; c++) {
            for (int what = 0; what < 2; what++) {
                due.is("blows(" + c + ", 0, " + what + ")", x.blows(c, 0, what), 20);
                due.is("blows(" + c + ", 1, " + what + ")", x.blows(c, 1, what), 20);
            }
        }
    }

    private static void fromItsSideOn() {
        due.sentence("Promise 15, from 0 (towards greater numbers), with its STRENGTH at first");
        WindLawyer x = Due.told("island;winds 9 0 9 1;user 0 0 1;user 0 11 1;");
        due.is("blows(0, 0, 0)", x.blows(0, 0, 0), 9);
        due.is("blows(0, 0, 1)", x.blows(0, 0, 1), 6);
        due.is("blows(1, 0, 0)", x.blows(1, 0, 0), 7);
        due.is("blows(11, 0, 0)", x.blows(11, 0, 0), 9);
        due.is("blows(11, 0, 1), behind the last", x.blows(11, 0, 1), 6);
        due.sentence("Promise 15, from 1 (towards lesser ones), with its STRENGTH at first");
        due.is("blows(11, 1, 0)", x.blows(11, 1, 0), 9);
        due.is("blows(11, 1, 1)", x.blows(11, 1, 1), 6);
        due.is("blows(10, 1, 0)", x.blows(10, 1, 0), 7);
        due.is("blows(0, 1, 0)", x.blows(0, 1, 0), 9);
        due.is("blows(0, 1, 1), behind the last", x.blows(0, 1, 1), 6);
    }

    private static void oneMoreBehindACell() {
        due.sentence("Promise 15, behind a CELL it is 1 more again");
        WindLawyer x = Due.told("island;winds 20 0;user 0 0 1;");
        for (int c = 1; c < 8; c++) {
            due.is("blows(" + c + ", 0, 0)", x.blows(c, 0, 0), 13 + c);
            due.is("blows(" + c + ", 0, 1)", x.blows(c, 0, 1), 13 + c);
        }
    }

    private static void strengthAtMost() {
        due.sentence("Promise 15, its STRENGTH at most");
        WindLawyer x = Due.told("island;winds 4 0;user 3 2 1;");
        int[] ahead = {4, 4, 4, 4, 4, 4, 4, 4, 4, 4, 4, 4};
        for (int c = 0; c < 12; c++) {
            due.is("blows(" + c + ", 0, 0)", x.blows(c, 0, 0), ahead[c]);
            due.is("blows(" + c + ", 0, 1)", x.blows(c, 0, 1), c == 2 ? 3 : 4);
        }
    }

    private static void strengthOf1() {
        due.sentence("Promise 15, the least wind");
        WindLawyer x = Due.told("island;winds 1 1;user 3 11 1;user 0 11 1;user 3 10 1;");
        due.is("takes(0, 0)", x.takes(0, 0), 1);
        due.is("takes(1, 0), of none that is left", x.takes(1, 0), 0);
        due.is("takes(2, 0), of 1 more again", x.takes(2, 0), 1);
        due.is("blows(11, 0, 1)", x.blows(11, 0, 1), 0);
        due.is("blows(10, 0, 0)", x.blows(10, 0, 0), 1);
    }

    private static void ahead() {
        due.sentence("Promise 15, WIND ahead of a CELL (0), behind it (1; before it is 1 more)");
        WindLawyer x = Due.told("island;winds 10 1;user 0 5 1;user 5 5 1;");
        due.is("blows(6, 0, 1)", x.blows(6, 0, 1), 10);
        due.is("blows(5, 0, 0)", x.blows(5, 0, 0), 10);
        due.is("blows(5, 0, 1)", x.blows(5, 0, 1), 4);
        due.is("blows(4, 0, 0)", x.blows(4, 0, 0), 5);
    }

    private static void usersTakeByNumbers() {
        due.sentence("Promise 16, in each CELL USERS TAKE, by numbers, what is TAKEN is gone");
        WindLawyer x = Due.told("island;winds 20 0 20 1;" + "user 0 4 1;".repeat(7));
        int[] taken = {7, 5, 3, 2, 1, 1, 1};
        for (int u = 0; u < 7; u++) {
            due.is("takes(" + u + ", 0)", x.takes(u, 0), taken[u]);
            due.is("takes(" + u + ", 1), from the other side", x.takes(u, 1), taken[u]);
        }
        due.is("blows(4, 0, 1)", x.blows(4, 0, 1), 0);
    }

    private static void nothingIsLeftForTheNext() {
        due.sentence("Promise 16, what is TAKEN is gone: nothing is left");
        WindLawyer x = Due.told("island;winds 4 0;user 5 3 4;user 0 3 1;user 0 4 1;");
        due.is("takes(0, 0)", x.takes(0, 0), 4);
        due.is("takes(1, 0)", x.takes(1, 0), 0);
        due.is("takes(2, 0)", x.takes(2, 0), 1);
        due.is("blows(3, 0, 1)", x.blows(3, 0, 1), 0);
        due.is("blows(4, 0, 0)", x.blows(4, 0, 0), 1);
        due.is("blows(4, 0, 1)", x.blows(4, 0, 1), 0);
    }

    private static void windOfEachHourOfTheDay() {
        due.sentence("Promise 15, in an hour of the day (0 .. 7), whatever the HOUR is");
        WindLawyer x = Due.told("island;winds 1 0 4 0 7 0 10 0 13 0 16 0 19 0 3 0;user 0 0 1;hours 5;");
        int[] taken = {1, 2, 3, 4, 5, 6, 7, 1};
        for (int h = 0; h < 8; h++) {
            due.is("takes(0, " + h + ")", x.takes(0, h), taken[h]);
        }
        due.is("blows(11, 7, 1)", x.blows(11, 7, 1), 3);
        due.bad(x, "takes(0, 8)", () -> x.takes(0, 8));
        due.bad(x, "blows(0, 8, 0)", () -> x.blows(0, 8, 0));
        due.bad(x, "blows(12, 0, 0)", () -> x.blows(12, 0, 0));
    }

    private static void thenOfNoHours() {
        due.sentence("Promise 17, DUES behind m (0 .. 99) HOURS: none");
        WindLawyer x = Due.told("island;winds 9 0 6 0;user 0 0 1;hours 1;");
        due.quiet(x, "then(0, 0)", () -> x.then(0, 0), 9);
        due.quiet(x, "then(0, 1)", () -> x.then(0, 1), 15);
    }

    private static void thenOf99Hours() {
        due.sentence("Promise 17, DUES behind m (0 .. 99) HOURS: 99");
        WindLawyer x = Due.told("island;winds 9 0 6 0 3 0 1 0;user 0 0 1;user 3 5 1;hours 3;");
        int then = x.then(0, 99);
        x.hour(99);
        due.is("then(0, 99)", then, x.of(0, 3));
        // 102 HOURS in all: 12 days of 9, 6, 3 and 3, and 6 HOURS more.
        due.is("of(0, 3)", x.of(0, 3), 12 * 21 + 21);
        due.bad(x, "then(0, 100)", () -> x.then(0, 100));
    }

    private static void thenBeyond9999() {
        due.sentence("Promise 17, HOURS go beyond 9999");
        WindLawyer x = Due.told("island;winds 3 0 6 0 9 0 12 0 15 0 18 0 20 0 1 0;user 0 0 1;");
        Twin.passTo(x, 9999);
        int dues = x.of(0, 3);
        int[] rents = {3, 3, 6, 9, 12, 15, 18, 21, 3};
        int sum = 0;
        for (int m = 0; m < rents.length; m++) {
            due.is("then(0, " + m + ") less DUES", x.then(0, m) - dues, sum);
            sum += rents[m];
        }
        due.is("then(0, 99) less DUES", x.then(0, 99) - dues, 12 * 87 + 3 + 3 + 6);
        due.is("count(2)", x.count(2), 9999);
    }

    private static void thenNoSuitHeard() {
        due.sentence("Promise 17, no suit heard");
        WindLawyer x = Due.told("island;winds 9 0;user 0 0 1;suit 0 0;hours 1;");
        due.is("then(0, 8)", x.then(0, 8), 18);
        x.hears(0);
        due.is("then(0, 0)", x.then(0, 0), 0);
        due.is("then(0, 8)", x.then(0, 8), 9);
    }

    private static void calmNow() {
        due.sentence("Promise 18, in how many HOURS the first comes: now, 0");
        WindLawyer x = Due.told("island;winds 9 0 0 0;user 0 0 1;hours 1;");
        due.is("calm(0)", x.calm(0), 0);
        due.sentence("Promise 18, a USER TAKES nothing, though there is wind");
        WindLawyer sail = Due.told("island;winds 4 0 3 0 4 0;user 1 0 1;");
        due.is("calm(0) of a sail", sail.calm(0), 1);
        WindLawyer behind = Due.told("island;winds 4 0;user 5 3 4;user 0 3 1;");
        due.is("calm(1) of a mill behind a church", behind.calm(1), 0);
    }

    private static void calmInSeven() {
        due.sentence("Promise 18, in how many HOURS (0 .. 23) the first comes: the last of a day");
        WindLawyer x = Due.told("island;winds 9 0 9 0 9 0 9 0 9 0 9 0 9 0 0 0;user 0 0 1;");
        for (int h = 0; h < 16; h++) {
            due.quiet(x, "calm(0) at " + h, () -> x.calm(0), 7 - h % 8);
            x.hour(1);
        }
    }

    private static void calmOfNone() {
        due.sentence("Promise 18, none: NONE");
        WindLawyer x = Due.told("island;winds 1 0 1 1 1 0 1 1 1 0 1 1 1 0 1 1;user 3 5 1;hours 3;");
        due.quiet(x, "calm(0)", () -> x.calm(0), WindLawyer.NONE);
    }

    private static void calmBeyond9999() {
        due.sentence("Promise 18, HOURS go beyond 9999");
        WindLawyer x = Due.told("island;winds 9 0 9 0 9 0 0 0 9 0 9 0 9 0 9 0;user 0 0 1;");
        Twin.passTo(x, 9999);
        // 9999 has the wind of 7, so 4 HOURS on is that of 3.
        due.is("calm(0)", x.calm(0), 4);
    }

    private static void placeWithoutUsers() {
        due.sentence("Promise 19, the CELL and how much less, where no others are");
        WindLawyer x = Due.told("island;winds 20 1;");
        due.is("place(5, 4, 0)", x.place(5, 4, 0), 0);
        due.is("place(5, 4, 1)", x.place(5, 4, 1), 0);
    }

    private static void placeNoLess() {
        due.sentence("Promise 19, 0: no less");
        WindLawyer x = Due.told("island;winds 10 0;user 0 0 1;");
        due.is("place(5, 4, 0), behind the other in its own CELL", x.place(5, 4, 0), 0);
        due.is("place(5, 4, 1)", x.place(5, 4, 1), 0);
        due.sentence("Promise 19, one more USER comes behind those in its CELL");
        WindLawyer y = Due.told("island;winds 10 0 10 1;user 0 6 1;");
        due.is("place(5, 4, 0)", y.place(5, 4, 0), 6);
    }

    private static void placeOfLikeOnesTheLeast() {
        due.sentence("Promise 19, of like ones the least");
        WindLawyer x = Due.told("island;winds 10 1;user 0 3 1;");
        due.is("place(5, 4, 0), of 0 to 3", x.place(5, 4, 0), 0);
        // A church costs 3 3 4 5 2 2 5 4 3 3 2 2 in the cells 0 to 11.
        WindLawyer y = Due.told("island;winds 10 0 10 1;user 0 4 1;user 0 5 1;");
        due.is("place(5, 4, 0), of 4, 5, 10 and 11", y.place(5, 4, 0), 4);
    }

    private static void placeInTheLastCell() {
        due.sentence("Promise 19, CELLS 0 .. 11: the last one");
        // Anywhere but behind it a church costs the kite in 11 or the clipper in 3 at least 1.
        WindLawyer x = Due.told("island;winds 12 0;user 4 3 3;user 2 11 4;");
        due.is("place(5, 3, 0)", x.place(5, 3, 0), 11);
        due.is("place(5, 3, 1)", x.place(5, 3, 1), 0);
    }

    private static void placeHowMuchLess() {
        due.sentence("Promise 19, how much less: least, but not 0");
        WindLawyer x = Due.told("island;winds 10 0 10 1;user 0 4 1;user 0 5 1;");
        due.is("place(5, 4, 1)", x.place(5, 4, 1), 2);
        due.is("what all others take without it", takenInTwoHours(x), 4 + 3 + 3 + 4);
        x.user(5, 4, 4);
        due.is("what all others take beside it", takenInTwoHours(x), 4 + 1 + 3 + 4);
    }

    private static int takenInTwoHours(WindLawyer x) {
        return x.takes(0, 0) + x.takes(1, 0) + x.takes(0, 1) + x.takes(1, 1);
    }

    private static void placeOfAWholeDay() {
        due.sentence("Promise 19, in a day (8 hours)");
        for (int h = 0; h < 8; h++) {
            WindLawyer x = new WindLawyer();
            x.wind(h, 10, 0);
            x.user(0, 3, 1);
            due.is("place(5, 4, 0) by hour " + h + " alone", x.place(5, 4, 0), 3);
        }
        WindLawyer x = Due.told("island;winds 10 0;user 0 3 1;hours 5;");
        due.is("place(5, 4, 0), whatever the HOUR is", x.place(5, 4, 0), 3);
    }

    private static void placeBesideSix() {
        due.sentence("Promise 19, the 7th USER has a place, an 8th has none");
        WindLawyer x = Due.told("island;winds 10 0;" + "user 0 3 1;".repeat(6));
        due.quiet(x, "place(5, 4, 0)", () -> x.place(5, 4, 0), 3);
        x.user(0, 0, 1);
        due.full(x, "place(5, 4, 0)", () -> x.place(5, 4, 0));
        due.full(x, "place(5, 4, 1)", () -> x.place(5, 4, 1));
        due.bad(x, "place(5, 4, 2)", () -> x.place(5, 4, 2));
    }

    private static void shareIs(WindLawyer x, int u, long above, long below) {
        due.is("share(" + u + ")", x.share(u), 1);
        due.is("share(" + u + "): part(0)", x.part(0), above);
        due.is("share(" + u + "): part(1)", x.part(1), below);
    }

    private static void shareOfOne() {
        due.sentence("Promise 20, SHARE of the only USER: all that it TAKES in a day");
        shareIs(Due.told("island;winds 1 0 4 1 7 0 10 0 13 0 16 0 19 0 20 0;user 0 5 1;"), 0, 1 + 2 + 3 + 4 + 5 + 6 + 7 + 7, 1);
    }

    private static void shareOfNothing() {
        due.sentence("Promise 20, SHARE of nothing: 0 by 1");
        WindLawyer x = Due.told("island;winds 9 0;user 0 5 1;user 0 5 1;");
        x.share(0);
        x.wind(0, 0, 0);
        shareIs(x, 0, 0, 1);
        shareIs(x, 1, 0, 1);
    }

    private static void shareBelow0() {
        due.sentence("Promise 20, it may be below 0");
        WindLawyer y = Due.told("island;winds 4 0;user 1 1 1;user 5 1 2;user 1 1 4;");
        shareIs(y, 0, -1, 6);
        shareIs(y, 1, 17, 6);
        shareIs(y, 2, 1, 3);
    }

    private static void shareOfSeven() {
        due.sentence("Promise 20, in all orders of 7 USERS");
        // Seven mills in a cell take 7 5 3 2 1 1 1 of 20, by number; so many as come take so much together.
        WindLawyer x = Due.told("island;winds 20 0;" + "user 0 4 1;".repeat(7));
        for (int u = 0; u < 7; u++) {
            shareIs(x, u, 20, 7);
        }
        // Six mills leave 1 of 20, so a washing behind them adds 1 in each order.
        WindLawyer y = Due.told("island;winds 20 0;" + "user 0 4 1;".repeat(6) + "user 3 4 1;");
        shareIs(y, 6, 1, 1);
    }

    private static void shareInLowestTerms() {
        due.sentence("THE FRACTION: lowest terms, below above 0");
        WindLawyer x = Due.told("island;winds 9 0 9 0;user 0 3 1;user 0 3 1;");
        shareIs(x, 0, 5, 1);
        x.wind(1, 0, 0);
        shareIs(x, 1, 5, 2);
    }

    private static void shareRefused() {
        due.sentence("Promise 20, a refused SHARE leaves THE FRACTION");
        WindLawyer x = Due.told("island;winds 9 0;user 0 3 1;user 0 3 1;");
        x.share(0);
        due.bad(x, "share(2)", () -> x.share(2));
        due.bad(x, "share(-1)", () -> x.share(-1));
        due.is("part(0)", x.part(0), 5);
        due.is("part(1)", x.part(1), 2);
    }
}
