/** Promises 15 to 20: blows, takes, then, calm, place, share. */
public final class WindTest {
    private static final Due due = new Due();

    public static void main(String[] args) {
        takesOfEachKind();
        rentOfEachKind();
        blows();
        usersOfOneCell();
        then();
        calm();
        place();
        share();
        shareBelowNothing();
        due.end();
    }

    /** What a lone user of a kind and a height takes of each wind from 0 to 20. */
    private static void takesAre(int kind, int height, int... taken) {
        WindLawyer x = new WindLawyer();
        x.user(kind, 6, height);
        for (int s = 0; s <= 20; s++) {
            x.wind(0, s, s % 2);
            due.is("takes of kind " + kind + ", height " + height + ", wind " + s, x.takes(0, 0), taken[s]);
        }
    }

    private static void takesOfEachKind() {
        takesAre(0, 1, 0, 1, 1, 1, 2, 2, 2, 3, 3, 3, 4, 4, 4, 5, 5, 5, 6, 6, 6, 7, 7);
        takesAre(0, 4, 0, 1, 1, 1, 2, 2, 2, 3, 3, 3, 4, 4, 4, 5, 5, 5, 6, 6, 6, 7, 7);
        takesAre(1, 2, 0, 0, 0, 0, 1, 1, 1, 1, 1, 1, 2, 2, 2, 2, 2, 2, 3, 3, 3, 3, 3);
        takesAre(2, 1, 0, 1, 1, 1, 1, 1, 1, 1, 1, 1, 1, 1, 1, 1, 1, 1, 1, 1, 1, 1, 1);
        takesAre(2, 3, 0, 1, 1, 1, 2, 2, 2, 3, 3, 3, 3, 3, 3, 3, 3, 3, 3, 3, 3, 3, 3);
        takesAre(3, 4, 0, 1, 1, 1, 1, 1, 1, 1, 1, 1, 1, 1, 1, 1, 1, 1, 1, 1, 1, 1, 1);
        takesAre(4, 1, 0, 1, 1, 1, 2, 2, 2, 2, 2, 2, 3, 3, 3, 3, 3, 3, 4, 4, 4, 4, 4);
        takesAre(4, 4, 0, 1, 2, 3, 4, 5, 5, 5, 5, 5, 6, 6, 6, 6, 6, 6, 7, 7, 7, 7, 7);
        takesAre(5, 1, 0, 1, 2, 2, 2, 2, 2, 2, 2, 2, 2, 2, 2, 2, 2, 2, 2, 2, 2, 2, 2);
        takesAre(5, 4, 0, 1, 2, 2, 4, 4, 4, 6, 6, 6, 8, 8, 8, 8, 8, 8, 8, 8, 8, 8, 8);
    }

    private static void rentOfEachKind() {
        // Of height 2: taken of 10 are 4, 2, 2, 1, 4, 4.
        int[] rents = {12, 6, 7, 0, 24, 13};
        for (int kind = 0; kind < 6; kind++) {
            WindLawyer x = new WindLawyer();
            x.user(kind, 0, 2);
            x.wind(0, 10, 0);
            due.is("rent of kind " + kind, x.hour(1), rents[kind]);
            due.is("no rent of kind " + kind + " without wind", x.hour(7), 0);
            x.wind(0, 1, 0);
            due.is("rent of kind " + kind + " of wind 1", x.hour(1), new int[] {3, 0, 4, 0, 6, 4}[kind]);
        }
    }

    private static void blows() {
        WindLawyer x = Due.told("island;winds 9 0 9 1;user 0 3 1;user 0 5 1;");
        // From 0: 9 9 9 9>6 7 8>5? a third of 8, cut up, is 3: 5; then 6 7 8 9 9 9.
        int[] ahead = {9, 9, 9, 9, 7, 8, 6, 7, 8, 9, 9, 9};
        int[] behind = {9, 9, 9, 6, 7, 5, 6, 7, 8, 9, 9, 9};
        // From 11: 9 as far as cell 5: 6, then 7 in cell 4, 8 in cell 3: 5, then 6 7 8.
        int[] aheadBack = {8, 7, 6, 8, 7, 9, 9, 9, 9, 9, 9, 9};
        int[] behindBack = {8, 7, 6, 5, 7, 6, 9, 9, 9, 9, 9, 9};
        for (int c = 0; c < 12; c++) {
            int cell = c;
            due.quiet(x, "blows(" + c + ", 0, 0)", () -> x.blows(cell, 0, 0), ahead[c]);
            due.quiet(x, "blows(" + c + ", 0, 1)", () -> x.blows(cell, 0, 1), behind[c]);
            due.quiet(x, "blows(" + c + ", 1, 0)", () -> x.blows(cell, 1, 0), aheadBack[c]);
            due.quiet(x, "blows(" + c + ", 1, 1)", () -> x.blows(cell, 1, 1), behindBack[c]);
            due.quiet(x, "blows(" + c + ", 7, 0)", () -> x.blows(cell, 7, 0), 0);
        }
        due.quiet(x, "takes(0, 0)", () -> x.takes(0, 0), 3);
        due.quiet(x, "takes(1, 0)", () -> x.takes(1, 0), 3);
        due.quiet(x, "takes(0, 1)", () -> x.takes(0, 1), 3);
        due.bad(x, "blows(-1, 0, 0)", () -> x.blows(-1, 0, 0));
        due.bad(x, "blows(12, 0, 0)", () -> x.blows(12, 0, 0));
        due.bad(x, "blows(0, -1, 0)", () -> x.blows(0, -1, 0));
        due.bad(x, "blows(0, 8, 0)", () -> x.blows(0, 8, 0));
        due.bad(x, "blows(0, 0, -1)", () -> x.blows(0, 0, -1));
        due.bad(x, "blows(0, 0, 2)", () -> x.blows(0, 0, 2));
        due.bad(x, "takes(-1, 0)", () -> x.takes(-1, 0));
        due.bad(x, "takes(2, 0)", () -> x.takes(2, 0));
        due.bad(x, "takes(0, -1)", () -> x.takes(0, -1));
        due.bad(x, "takes(0, 8)", () -> x.takes(0, 8));
    }

    private static void usersOfOneCell() {
        WindLawyer x = Due.told("island;winds 10 1;user 3 4 1;user 0 4 1;user 4 4 2;");
        due.is("the first takes of 10", x.takes(0, 0), 1);
        due.is("the second of 9", x.takes(1, 0), 3);
        due.is("the third of 6", x.takes(2, 0), 3);
        due.is("ahead", x.blows(4, 0, 0), 10);
        due.is("behind", x.blows(4, 0, 1), 3);
        due.is("ahead of the next", x.blows(3, 0, 0), 4);
    }

    private static void then() {
        WindLawyer x = Due.told("island;winds 9 0 6 1;user 0 2 1;hours 1;suit 0 0;");
        due.quiet(x, "then(0, 0)", () -> x.then(0, 0), 9);
        due.quiet(x, "then(0, 1)", () -> x.then(0, 1), 15);
        due.quiet(x, "then(0, 7)", () -> x.then(0, 7), 15);
        due.quiet(x, "then(0, 8)", () -> x.then(0, 8), 24);
        due.quiet(x, "then(0, 99)", () -> x.then(0, 99), 9 + 13 * 6 + 12 * 9);
        due.bad(x, "then(-1, 0)", () -> x.then(-1, 0));
        due.bad(x, "then(1, 0)", () -> x.then(1, 0));
        due.bad(x, "then(0, -1)", () -> x.then(0, -1));
        due.bad(x, "then(0, 100)", () -> x.then(0, 100));
    }

    private static void calm() {
        WindLawyer x = Due.told("island;winds 9 0 9 0 9 0 9 0 9 0 9 0 9 0 3 0;user 1 2 1;user 0 3 1;");
        due.quiet(x, "calm(0): a wind of 3 is none to a sail", () -> x.calm(0), 7);
        due.quiet(x, "calm(1): none", () -> x.calm(1), WindLawyer.NONE);
        x.hour(1);
        due.quiet(x, "calm(0), an hour on", () -> x.calm(0), 6);
        x.hour(6);
        due.quiet(x, "calm(0), now", () -> x.calm(0), 0);
        x.hour(1);
        due.quiet(x, "calm(0), on the next day", () -> x.calm(0), 7);
        due.bad(x, "calm(-1)", () -> x.calm(-1));
        due.bad(x, "calm(2)", () -> x.calm(2));
    }

    private static void place() {
        // A mill of 10 takes 4. A church of height 4 takes 8 of 10, so in cells 0, 1, 2 the mill has
        // 5, 4, 3 and takes 2, 2, 1; behind it, in its own cell, the church takes from nobody.
        WindLawyer x = Due.told("island;winds 10 0;user 0 3 1;");
        due.quiet(x, "place behind all", () -> x.place(5, 4, 0), 3);
        due.quiet(x, "how much less there", () -> x.place(5, 4, 1), 0);
        // Of 9 a mill leaves 6, and behind it come 7, 8, 9: the other takes a third, 3, all the same.
        WindLawyer back = Due.told("island;winds 9 0;user 0 3 1;");
        due.quiet(back, "the least of like ones", () -> back.place(0, 1, 0), 0);
        // Two mills, wind from both sides: a church costs 3 3 4 5 2 2 5 4 3 3 2 2 in cells 0 to 11.
        WindLawyer y = Due.told("island;winds 10 0 10 1;user 0 4 1;user 0 5 1;");
        due.quiet(y, "place between two winds", () -> y.place(5, 4, 0), 4);
        due.quiet(y, "how much less there", () -> y.place(5, 4, 1), 2);
        // A church takes all of 4, and the mills behind it nothing; a second church ahead of it would cost 3.
        WindLawyer z = Due.told("island;winds 4 0;user 5 1 4;user 0 1 1;user 0 1 1;");
        due.quiet(z, "place of a washing", () -> z.place(3, 1, 0), 0);
        due.quiet(z, "place of a church", () -> z.place(5, 4, 0), 1);
        // The winds of all 8 hours count.
        WindLawyer day = Due.told("island;winds 0 0 0 0 0 0 0 0 0 0 0 0 0 0 10 0;user 0 3 1;");
        due.is("place by the last hour", day.place(5, 4, 0), 3);
        WindLawyer empty = new WindLawyer();
        due.is("place on an empty island", empty.place(5, 1, 0), 0);
        due.is("how much less there", empty.place(5, 1, 1), 0);
        placeRefused();
    }

    private static void placeRefused() {
        WindLawyer x = Due.told("island;winds 4 0;" + "user 2 2 1;".repeat(6));
        due.bad(x, "place(-1, 1, 0)", () -> x.place(-1, 1, 0));
        due.bad(x, "place(6, 1, 0)", () -> x.place(6, 1, 0));
        due.bad(x, "place(0, 0, 0)", () -> x.place(0, 0, 0));
        due.bad(x, "place(0, 5, 0)", () -> x.place(0, 5, 0));
        due.bad(x, "place(0, 1, -1)", () -> x.place(0, 1, -1));
        due.bad(x, "place(0, 1, 2)", () -> x.place(0, 1, 2));
        due.quiet(x, "place beside 6 users", () -> x.place(0, 1, 0), 0);
        x.user(0, 0, 1);
        due.full(x, "place beside 7 users", () -> x.place(0, 1, 0));
        due.bad(x, "place(0, 1, 2) beside 7 users", () -> x.place(0, 1, 2));
    }

    private static void shareIs(WindLawyer x, int u, long above, long below) {
        due.is("share(" + u + ")", x.share(u), 1);
        due.is("share(" + u + "): above", x.part(0), above);
        due.is("share(" + u + "): below", x.part(1), below);
    }

    private static void share() {
        WindLawyer alone = Due.told("island;winds 9 0 6 1;user 0 3 1;");
        shareIs(alone, 0, 5, 1);
        // Two mills in a cell: alone 3 of 9 each, together 3 of 9 and 2 of 6.
        WindLawyer two = Due.told("island;winds 9 0;user 0 3 1;user 0 3 1;");
        shareIs(two, 0, 5, 2);
        shareIs(two, 1, 5, 2);
        // Three: 3, 5 and 7 together, so 7 by 3 each.
        WindLawyer three = Due.told("island;winds 9 0;user 0 3 1;user 0 3 1;user 0 3 1;");
        shareIs(three, 2, 7, 3);
        shareIs(three, 0, 7, 3);
        WindLawyer still = Due.told("island;user 0 3 1;");
        shareIs(still, 0, 0, 1);
        due.bad(three, "share(-1)", () -> three.share(-1));
        due.bad(three, "share(3)", () -> three.share(3));
    }

    /** A church of height 4 takes all of 4, but of 3, behind a washing or a sail, only 2. */
    private static void shareBelowNothing() {
        // The washing adds 1 alone, but the church loses 2 by it: 1 and 1 less.
        WindLawyer x = Due.told("island;winds 4 0;user 3 0 1;user 5 0 4;");
        shareIs(x, 0, 0, 1);
        shareIs(x, 1, 3, 1);
        // Taken of 4 by sail, church, sail (0, 1, 2): 0: 1; 1: 4; 2: 1; 0 1: 3; 0 2: 1; 1 2: 4; all: 3.
        // So the first adds 1 twice, then 0, then 1 less once, and 1 less twice.
        WindLawyer y = Due.told("island;winds 4 0;user 1 1 1;user 5 1 2;user 1 1 4;");
        shareIs(y, 0, -1, 6);
        shareIs(y, 1, 17, 6);
        shareIs(y, 2, 1, 3);
    }
}
