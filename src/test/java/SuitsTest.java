/** Promises 21 to 23: award, court, settle. */
public final class SuitsTest {
    private static final Due due = new Due();

    public static void main(String[] args) {
        award();
        courtOfNone();
        courtByOrder();
        courtByAge();
        courtBeyondTheLastHour();
        settle();
        due.end();
    }

    private static void award() {
        WindLawyer x = Due.told("island;winds 9 0 9 0 9 0;user 0 2 1;user 2 11 1;suit 0 0;suit 1 0;suit 2 0;suit 3 0;suit 4 0;");
        x.hour(3);
        int[] young = {27, 54, 30, 14, 0};
        for (int s = 0; s < 5; s++) {
            int suit = s;
            due.quiet(x, "award(" + s + ")", () -> x.award(suit), young[s]);
        }
        x.hour(4);
        due.is("7 hours old", x.award(4), 0);
        x.hour(1);
        due.is("8 hours old", x.award(4), 2 * (27 + 8));
        x.hears(3);
        for (int s = 0; s < 5; s++) {
            due.is("award(" + s + ") behind a hearing", x.award(s), new int[] {0, 0, 8, 0, 16}[s]);
        }
        due.bad(x, "award(-1)", () -> x.award(-1));
        due.bad(x, "award(5)", () -> x.award(5));
        WindLawyer y = Due.told("island;winds 9 0;user 2 0 2;suit 5 0;hours 1;");
        due.is("shutter, twice 7", y.award(0), 14);
        y.hour(16);
        due.is("shutter, twice 21", y.award(0), 40);
    }

    private static void courtOfNone() {
        WindLawyer x = new WindLawyer();
        due.quiet(x, "court(NONE)", () -> x.court(-1), 0);
        due.quiet(x, "court(0)", () -> x.court(0), -5);
        due.refused(x, "court(-2)", () -> x.court(-2), -10, Due.BAD);
        due.refused(x, "court(least)", () -> x.court(Integer.MIN_VALUE), -10, Due.BAD);
        due.quiet(x, "court(most)", () -> x.court(Integer.MAX_VALUE), -5);
    }

    private static void courtIs(WindLawyer x, int won, int... order) {
        due.quiet(x, "court(NONE)", () -> x.court(WindLawyer.NONE), won);
        for (int i = 0; i < order.length; i++) {
            int place = i;
            due.quiet(x, "court(" + i + ")", () -> x.court(place), order[i]);
        }
        due.quiet(x, "court behind all", () -> x.court(order.length), -5);
    }

    private static void courtByOrder() {
        // Dues 9 and 9; of user 0 the theft wins most, so it comes first of its suits.
        WindLawyer x = Due.told("island;winds 9 0;user 0 2 1;user 0 11 1;hours 1;suit 0 0;suit 3 0;suit 1 0;suit 0 1;");
        courtIs(x, 18 + 9, 2, 0, 1, 3);
        x.hears(3);
        due.is("won", x.count(4), 9);
        courtIs(x, 18, 2, 0, 1);
        x.hears(2);
        // Dues are 0 now, whatever the order.
        courtIs(x, 0, 0, 1);
        x.hour(8);
        courtIs(x, 9, 0, 1);
        WindLawyer five = Due.told("island;user 0 2 1;suit 0 0;suit 0 0;suit 0 0;suit 0 0;suit 0 0;");
        courtIs(five, 0, 0, 1, 2, 3, 4);
    }

    private static void courtByAge() {
        // A damage of nothing due wins its age: at its last place 2 more than at its first.
        WindLawyer x = Due.told("island;winds 9 0;user 0 2 1;user 3 0 1;suit 2 1;suit 0 0;suit 0 1;hours 1;");
        courtIs(x, 9 + 1 + 2, 1, 2, 0);
        // A forgotten one, 6 hours old, wins only at its third place, 8 hours old: 16.
        WindLawyer y = Due.told("island;user 3 0 1;suit 4 0;suit 0 0;suit 0 0;hours 6;");
        courtIs(y, 16, 1, 2, 0);
        // 5 hours old it can not become 8.
        WindLawyer z = Due.told("island;user 3 0 1;suit 4 0;suit 0 0;suit 0 0;hours 5;");
        courtIs(z, 0, 0, 1, 2);
        // Dues stay as they are now, though hours go by in court.
        WindLawyer still = Due.told("island;winds 9 0 9 0 9 0;user 0 2 1;user 3 0 1;hours 1;suit 0 1;suit 0 0;");
        courtIs(still, 9, 0, 1);
    }

    private static void courtBeyondTheLastHour() {
        WindLawyer x = new WindLawyer();
        x.user(3, 0, 1);
        for (int i = 0; i < 102; i++) {
            x.hour(99);
        }
        due.is("the last hour", x.count(2), 9999);
        x.suit(2, 0);
        x.suit(2, 0);
        x.suit(2, 0);
        courtIs(x, 0 + 1 + 2, 0, 1, 2);
    }

    private static void settle() {
        // Dues 9 of user 0, 10 of the kite of height 3, its user 1.
        WindLawyer x = Due.told("island;winds 9 0;user 0 2 1;user 2 11 3;hours 1;suit 0 0;suit 0 1;suit 1 0;suit 3 1;suit 2 0;");
        due.quiet(x, "settle()", x::settle, 1 << 1 | 1 << 2);
        x.hour(1);
        due.quiet(x, "settle() an hour on", x::settle, 1 << 1 | 1 << 2 | 1 << 4);
        x.hears(1);
        due.quiet(x, "settle() behind a hearing", x::settle, 1 << 2 | 1 << 4);
        due.is("settle() of none", new WindLawyer().settle(), 0);
    }
}
