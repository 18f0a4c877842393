/** Promises 21 to 23: each sentence that names an edge has a test of its own. RangesTest and RefusalsTest hold the numbers. */
public final class SuitsEdgesTest {
    private static final Due due = new Due();

    public static void main(String[] args) {
        awardOfOneHeard();
        awardOf7And8Hours();
        awardOfOneFiledNow();
        awardOfTheLastSuit();
        courtOfNoSuits();
        courtOfSuitsAllHeard();
        courtOfOne();
        courtOfFive();
        courtBehindTheLast();
        courtBelowNone();
        courtOfLikeOrders();
        courtIsRising();
        courtOfTheLastOrder();
        courtIsOneAnHour();
        courtFromNowOn();
        courtDuesAsTheyAreNow();
        courtOfAUserWhoseSuitWasHeard();
        courtOfAnyUserWhoseSuitWasHeard();
        courtOfAUserWhoseSuitWasHeardBefore();
        courtOfForgottenOnes();
        courtBeyond9999();
        courtTellsWhatIsWonInIt();
        settleOfNone();
        settleOf9And10();
        settleOfOneHeard();
        settleOfTheFirstAndTheLast();
        due.end();
    }

    private static WindLawyer mill() {
        return Due.told("island;winds 3 0 3 0 3 0 3 0 3 0 3 0 3 0 3 0;user 0 2 1;");
    }

    private static void awardOfOneHeard() {
        due.sentence("Promise 21, AWARD of a SUIT now (heard: 0)");
        WindLawyer x = mill();
        x.suit(2, 0);
        x.hour(3);
        due.quiet(x, "award(0)", () -> x.award(0), 12);
        x.hears(0);
        due.quiet(x, "award(0), heard", () -> x.award(0), 0);
        x.hour(3);
        due.quiet(x, "award(0), heard and older", () -> x.award(0), 0);
        x.undo();
        x.undo();
        due.quiet(x, "award(0), its hearing undone", () -> x.award(0), 12);
    }

    private static void awardOf7And8Hours() {
        due.sentence("Promise 21, FORGOTTEN: 0, if a is below 8");
        WindLawyer x = mill();
        x.hour(1);
        x.suit(4, 0);
        x.hour(7);
        due.is("7 hours old", x.award(0), 0);
        x.hour(1);
        due.is("8 hours old", x.award(0), 2 * (27 + 8));
    }

    private static void awardOfOneFiledNow() {
        due.sentence("Promise 21, by how many HOURS old it is: none");
        WindLawyer x = mill();
        x.hour(9);
        x.suit(2, 0);
        due.is("award(0)", x.award(0), 27);
    }

    private static void awardOfTheLastSuit() {
        due.sentence("Promise 21, SUITS 0 .. 4");
        WindLawyer x = mill();
        for (int s = 0; s < 5; s++) {
            x.suit(s == 4 ? 1 : 0, 0);
        }
        x.hour(1);
        due.is("award(4)", x.award(4), 6);
        due.is("award(0)", x.award(0), 3);
        due.bad(x, "award(5)", () -> x.award(5));
        due.bad(x, "award(-1)", () -> x.award(-1));
    }

    private static void courtIs(WindLawyer x, int won, int... order) {
        due.quiet(x, "court(NONE)", () -> x.court(WindLawyer.NONE), won);
        for (int i = 0; i < order.length; i++) {
            int place = i;
            due.quiet(x, "court(" + i + ")", () -> x.court(place), order[i]);
        }
        due.quiet(x, "court(" + order.length + ")", () -> x.court(order.length), -5);
    }

    private static void courtOfNoSuits() {
        due.sentence("Promise 22, how much, of no SUITS");
        courtIs(new WindLawyer(), 0);
    }

    private static void courtOfSuitsAllHeard() {
        due.sentence("Promise 22, all that are not heard: none");
        WindLawyer x = mill();
        x.suit(2, 0);
        x.suit(2, 0);
        x.hour(9);
        x.hears(0);
        x.hears(1);
        courtIs(x, 0);
    }

    private static void courtOfOne() {
        due.sentence("Promise 22, all that are not heard: one");
        WindLawyer x = mill();
        x.suit(0, 0);
        x.suit(1, 0);
        x.suit(0, 0);
        x.hour(1);
        x.hears(0);
        x.hour(2);
        x.hears(2);
        x.hour(1);
        courtIs(x, 6, 1);
    }

    private static void courtOfFive() {
        due.sentence("Promise 22, all that are not heard: five");
        // Three mills owe 6 each, whenever they are heard; the two damages, of nothing due, win their age, so they come last.
        WindLawyer x = Due.told("island;winds 3 0 3 0 0 0;user 0 2 1;user 0 11 1;user 0 6 1;user 3 0 1;hours 2;"
                + "suit 2 3;suit 0 0;suit 1 1;suit 5 2;suit 2 3;");
        courtIs(x, 6 + 12 + 12 + 3 + 4, 1, 2, 3, 0, 4);
    }

    private static void courtBehindTheLast() {
        due.sentence("Promise 22, -5: not so many");
        WindLawyer x = mill();
        for (int n = 0; n < 5; n++) {
            int behind = n;
            due.quiet(x, "court(" + n + ")", () -> x.court(behind), -5);
            x.suit(0, 0);
            due.quiet(x, "court(" + n + ") of one more", () -> x.court(behind), n);
        }
        due.quiet(x, "court(5)", () -> x.court(5), -5);
        due.quiet(x, "court(most)", () -> x.court(Integer.MAX_VALUE), -5);
        x.hears(2);
        due.quiet(x, "court(4), one heard", () -> x.court(4), -5);
        due.quiet(x, "court(3)", () -> x.court(3), 4);
    }

    private static void courtBelowNone() {
        due.sentence("Promise 22, BAD: -10: i below -1");
        WindLawyer x = mill();
        x.suit(0, 0);
        due.quiet(x, "court(-1)", () -> x.court(-1), 0);
        due.refused(x, "court(-2)", () -> x.court(-2), -10, Due.BAD);
        due.refused(x, "court(-5)", () -> x.court(-5), -10, Due.BAD);
        due.refused(x, "court(least)", () -> x.court(Integer.MIN_VALUE), -10, Due.BAD);
    }

    private static void courtOfLikeOrders() {
        due.sentence("Promise 22, the first such order, where all are alike");
        WindLawyer x = new WindLawyer();
        x.user(3, 0, 1);
        for (int s = 0; s < 5; s++) {
            x.suit(0, 0);
        }
        courtIs(x, 0, 0, 1, 2, 3, 4);
        x.hears(1);
        courtIs(x, 0, 0, 2, 3, 4);
        x.hears(0);
        courtIs(x, 0, 2, 3, 4);
    }

    private static void courtIsRising() {
        due.sentence("Promise 22, the first such order (rising), where some are alike");
        // The theft must come ahead of the other suit of user 0; the will of user 1 may come anywhere.
        WindLawyer x = Due.told("island;winds 3 0;user 0 2 1;user 0 11 1;hours 1;suit 0 0;suit 3 1;suit 1 0;");
        courtIs(x, 6 + 2, 1, 2, 0);
    }

    private static void courtOfTheLastOrder() {
        due.sentence("Promise 22, in an order: the last of all 120");
        // Users 0 and 1 owe 27 each. The theft comes ahead of the will of its user; they gain nothing by age. The
        // damage of nothing due gains 1 an HOUR, the forgotten one 2, but comes ahead of the damage of its user.
        WindLawyer x = Due.told("island;winds 3 0 3 0 3 0 3 0 3 0 3 0 3 0 3 0;user 0 2 1;user 0 11 1;user 3 6 1;"
                + "suit 2 1;suit 4 1;suit 2 2;suit 3 0;suit 1 0;hours 9;");
        courtIs(x, 54 + 0 + (9 + 2) + 2 * (27 + 9 + 3) + (9 + 4), 4, 3, 2, 1, 0);
    }

    private static void courtIsOneAnHour() {
        due.sentence("Promise 22, one an HOUR from now on, AWARDED by their age then");
        WindLawyer x = new WindLawyer();
        x.user(3, 0, 1);
        for (int s = 0; s < 5; s++) {
            x.suit(2, 0);
        }
        courtIs(x, 0 + 1 + 2 + 3 + 4, 0, 1, 2, 3, 4);
    }

    private static void courtFromNowOn() {
        due.sentence("Promise 22, from now on: the first is heard now");
        WindLawyer x = new WindLawyer();
        x.user(3, 0, 1);
        x.suit(4, 0);
        x.hour(7);
        courtIs(x, 0, 0);
        x.hour(1);
        courtIs(x, 16, 0);
    }

    private static void courtDuesAsTheyAreNow() {
        due.sentence("Promise 22, DUES as they are now");
        WindLawyer x = mill();
        x.user(3, 0, 1);
        x.hour(2);
        x.suit(0, 1);
        x.suit(0, 0);
        courtIs(x, 6, 0, 1);
    }

    private static void courtOfAUserWhoseSuitWasHeard() {
        due.sentence("Promise 22, but 0 of a USER whose suit was heard");
        WindLawyer x = mill();
        x.hour(3);
        x.suit(3, 0);
        x.suit(0, 0);
        x.suit(1, 0);
        courtIs(x, 18, 2, 0, 1);
        due.sentence("Promise 22, but 0 of a USER whose suit was heard, also if nothing was AWARDED");
        WindLawyer y = mill();
        y.hour(3);
        y.suit(4, 0);
        y.suit(0, 0);
        courtIs(y, 9, 1, 0);
    }

    private static void courtOfAnyUserWhoseSuitWasHeard() {
        due.sentence("Promise 22, but 0 of a USER whose suit was heard: of each of USERS 0 .. 6, of it alone");
        for (int u = 0; u < 7; u++) {
            WindLawyer x = new WindLawyer();
            for (int i = 0; i < 7; i++) {
                x.user(3 * (i == u || i == (u + 1) % 7 ? 0 : 1), 0, 1);
            }
            x.wind(0, 20, 0);
            x.hour(1);
            x.suit(0, u);
            x.suit(0, (u + 1) % 7);
            x.suit(1, u);
            courtIs(x, 2 * x.of(u, 3) + x.of((u + 1) % 7, 3), 1, 2, 0);
        }
    }

    private static void courtOfAUserWhoseSuitWasHeardBefore() {
        due.sentence("Promise 22, DUES as they are now, of a USER whose suit was heard before now, too");
        WindLawyer x = mill();
        x.suit(0, 0);
        x.suit(1, 0);
        x.hour(1);
        x.hears(0);
        x.hour(3);
        courtIs(x, 18, 1);
    }

    private static void courtOfForgottenOnes() {
        due.sentence("Promise 22, a FORGOTTEN one is 8 HOURS old at the place where it wins");
        for (int age = 3; age <= 8; age++) {
            WindLawyer x = new WindLawyer();
            x.user(3, 0, 1);
            x.suit(4, 0);
            for (int s = 1; s < 5; s++) {
                x.suit(0, 0);
            }
            x.hour(age);
            // In its last place it is 4 hours older.
            due.is("court(NONE), " + age + " hours old", x.court(-1), age < 4 ? 0 : 2 * (age + 4));
            due.is("court(0)", x.court(0), age < 4 ? 0 : 1);
            due.is("court(4)", x.court(4), age < 4 ? 4 : 0);
        }
    }

    private static void courtBeyond9999() {
        due.sentence("Promise 22, HOURS go beyond 9999");
        WindLawyer x = new WindLawyer();
        x.user(3, 0, 1);
        Twin.passTo(x, 9999);
        due.is("count(2)", x.count(2), 9999);
        x.suit(2, 0);
        x.suit(2, 0);
        courtIs(x, 1, 0, 1);
        due.is("count(2)", x.count(2), 9999);
    }

    private static void courtTellsWhatIsWonInIt() {
        due.sentence("Promise 22, so that most is WON: how much");
        WindLawyer x = mill();
        x.suit(0, 0);
        x.suit(0, 0);
        x.hour(5);
        x.hears(0);
        x.hour(1);
        due.is("count(4)", x.count(4), 15);
        courtIs(x, 3, 1);
    }

    private static void settleOfNone() {
        due.sentence("Promise 23, SUITS as bits: none");
        WindLawyer x = new WindLawyer();
        due.quiet(x, "settle() of no SUITS", x::settle, 0);
        WindLawyer y = mill();
        y.hour(9);
        due.quiet(y, "settle() of no SUITS, though 27 are due", y::settle, 0);
        y.suit(0, 0);
        due.quiet(y, "settle() of one", y::settle, 1);
    }

    private static void settleOf9And10() {
        due.sentence("Promise 23, for which now 10 or more is AWARDED");
        // Dues 9 and, of the kite of height 3, 10.
        WindLawyer x = Due.told("island;winds 9 0;user 0 2 1;user 2 11 3;hours 1;suit 0 0;suit 0 1;");
        due.quiet(x, "settle()", x::settle, 2);
        WindLawyer y = Due.told("island;user 3 2 1;suit 2 0;hours 9;");
        due.quiet(y, "settle(), 9", y::settle, 0);
        y.hour(1);
        due.quiet(y, "settle(), 10", y::settle, 1);
    }

    private static void settleOfOneHeard() {
        due.sentence("Promise 23, SUITS not heard");
        WindLawyer x = Due.told("island;user 3 2 1;suit 2 0;suit 2 0;hours 10;");
        x.hears(0);
        x.hour(10);
        due.quiet(x, "settle()", x::settle, 2);
        x.hears(1);
        due.quiet(x, "settle(), all heard", x::settle, 0);
    }

    private static void settleOfTheFirstAndTheLast() {
        due.sentence("Promise 23, SUITS 0 .. 4 as bits");
        WindLawyer x = Due.told("island;user 3 2 1;suit 2 0;suit 0 0;suit 0 0;suit 0 0;suit 2 0;hours 10;");
        due.quiet(x, "settle()", x::settle, 1 | 1 << 4);
        WindLawyer y = Due.told("island;user 3 2 1;suit 2 0;suit 2 0;suit 2 0;suit 2 0;suit 2 0;hours 10;");
        due.quiet(y, "settle() of all", y::settle, 31);
    }
}
