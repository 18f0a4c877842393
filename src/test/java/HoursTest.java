/** Promises 8 to 14: hour, suit, hears, pays, undo, of, about. */
public final class HoursTest {
    private static final Due due = new Due();

    public static void main(String[] args) {
        hour();
        lastHour();
        suit();
        hears();
        pays();
        undo();
        undoKeepsWhatItIsNotToldOf();
        ofAndAbout();
        due.end();
    }

    private static void hour() {
        WindLawyer x = Due.told("island;winds 9 0 6 1;user 0 2 1;user 3 5 1;");
        // Hour 0: the mill takes 3 of 9. Hour 1: the washing takes 1 of 6, the mill 2 of 6 again.
        due.is("hour(1)", x.hour(1), 9);
        due.is("hour(1) again", x.hour(1), 6);
        due.is("hour(6), without wind", x.hour(6), 0);
        due.is("hour(8)", x.hour(8), 15);
        due.is("dues of the mill", x.of(0, 3), 30);
        due.is("dues of the washing", x.of(1, 3), 0);
        due.is("the hour", x.count(2), 16);
        due.is("four that may be undone", x.count(8), 4);
        due.bad(x, "hour(0)", () -> x.hour(0));
        due.bad(x, "hour(-1)", () -> x.hour(-1));
        due.bad(x, "hour(100)", () -> x.hour(100));
        due.is("hour(99)", x.hour(99), 12 * 15 + 9 + 6);
    }

    private static void lastHour() {
        WindLawyer x = new WindLawyer();
        x.user(0, 0, 1);
        for (int h = 0; h < 8; h++) {
            x.wind(h, 3, 0);
        }
        for (int i = 0; i < 100; i++) {
            due.is("hour(99) of the first 9900", x.hour(99), 297);
        }
        due.is("hour(98)", x.hour(98), 294);
        due.is("hour 9998", x.count(2), 9998);
        due.is("only one more goes by", x.hour(99), 3);
        due.is("hour 9999", x.count(2), 9999);
        due.is("none goes by", x.hour(1), 0);
        due.is("hour 9999 still", x.count(2), 9999);
        due.is("dues", x.of(0, 3), 3 * 9999);
        due.is("a suit at 9999", x.suit(4, 0), 0);
        due.is("about(0, 2)", x.about(0, 2), 9999);
        due.is("then(0, 99) goes beyond", x.then(0, 99), 3 * 9999 + 297);
        due.is("calm(0)", x.calm(0), WindLawyer.NONE);
        x.undo();
        due.is("undo of none gone by", x.undo(), 9999);
        due.is("undo of one gone by", x.undo(), 9998);
    }

    private static void suit() {
        WindLawyer x = Due.told("island;winds 9 0;user 0 2 1;user 1 3 1;");
        x.hour(4);
        due.is("suit(5, 1)", x.suit(5, 1), 0);
        due.is("suit(0, 0)", x.suit(0, 0), 1);
        due.bad(x, "suit(-1, 0)", () -> x.suit(-1, 0));
        due.bad(x, "suit(6, 0)", () -> x.suit(6, 0));
        due.bad(x, "suit(0, -1)", () -> x.suit(0, -1));
        due.bad(x, "suit(0, 2)", () -> x.suit(0, 2));
        x.suit(1, 1);
        x.suit(2, 1);
        due.is("a 5th suit", x.suit(3, 1), 4);
        due.full(x, "a 6th suit", () -> x.suit(0, 0));
        due.bad(x, "a 6th suit that is BAD", () -> x.suit(0, 7));
        due.is("about(0, 2)", x.about(0, 2), 4);
        due.is("count(8)", x.count(8), 6);
        WindLawyer empty = new WindLawyer();
        due.bad(empty, "a suit without users", () -> empty.suit(0, 0));
    }

    private static void hears() {
        // Dues 15 of the mill, all suits filed at hour 0 and heard in hour 5, or 10.
        int[] atFive = {15, 30, 20, 8, 0, 30};
        int[] atTen = {30, 60, 40, 15, 80, 40};
        for (int kind = 0; kind < 6; kind++) {
            WindLawyer x = Due.told("island;winds 3 0 3 0 3 0 3 0 3 0 0 0 3 1 3 1;user 0 2 1;");
            x.suit(kind, 0);
            x.hour(5);
            due.is("hears of kind " + kind + " at 5", x.hears(0), atFive[kind]);
            due.is("won", x.count(4), atFive[kind]);
            due.is("dues behind it", x.of(0, 3), 0);
            due.is("heard", x.about(0, 3), 1);
            due.no(x, "hears again", () -> x.hears(0));
            x.undo();
            due.is("not heard behind undo", x.about(0, 3), 0);
            due.is("dues behind undo", x.of(0, 3), 15);
            x.hour(5);
            x.suit(kind, 0);
            due.is("dues at 10", x.of(0, 3), 27);
            x.pays(0);
            x.hour(1);
            due.is("a suit 1 hour old, dues 3", x.award(1), new int[] {3, 6, 4, 2, 0, 6}[kind]);
        }
        for (int kind = 0; kind < 6; kind++) {
            WindLawyer x = Due.told("island;winds 3 0 3 0 3 0 3 0 3 0 3 0 3 1 3 1;user 0 2 1;");
            x.suit(kind, 0);
            x.suit(0, 0);
            x.hour(10);
            due.is("hears of kind " + kind + " at 10", x.hears(0), atTen[kind]);
            due.is("the other suit wins nothing now", x.hears(1), 0);
            due.is("won in all", x.count(4), atTen[kind]);
        }
        WindLawyer x = new WindLawyer();
        due.bad(x, "hears(0)", () -> x.hears(0));
        due.bad(x, "hears(-1)", () -> x.hears(-1));
        x.user(0, 0, 1);
        x.suit(0, 0);
        due.bad(x, "hears(1)", () -> x.hears(1));
        due.is("hears with nothing due", x.hears(0), 0);
        due.is("it may be undone", x.count(8), 2);
        x.suit(4, 0);
        x.hour(7);
        due.is("forgotten, 7 hours old", x.award(1), 0);
        x.hour(1);
        due.is("forgotten, 8 hours old", x.award(1), 16);
    }

    private static void pays() {
        WindLawyer x = Due.told("island;winds 9 0;user 0 2 1;user 0 3 1;hours 1;");
        due.is("pays(1)", x.pays(1), 9);
        due.is("of(1, 3)", x.of(1, 3), 0);
        due.is("of(0, 3)", x.of(0, 3), 9);
        due.is("nothing is won", x.count(4), 0);
        due.is("pays(1) again", x.pays(1), 0);
        due.is("both may be undone", x.count(8), 2);
        due.bad(x, "pays(-1)", () -> x.pays(-1));
        due.bad(x, "pays(2)", () -> x.pays(2));
        x.undo();
        x.undo();
        due.is("of(1, 3) behind undo", x.of(1, 3), 9);
    }

    private static void undo() {
        WindLawyer x = Due.told("island;winds 9 0;user 0 2 1;");
        for (int i = 0; i < 9; i++) {
            x.hour(i + 1);
        }
        due.is("8 at most", x.count(8), 8);
        int at = 45;
        for (int i = 8; i >= 1; i--) {
            at -= i + 1;
            due.is("undo " + i, x.undo(), at);
        }
        due.no(x, "a 9th undo", x::undo);
        due.is("the first hour stays", x.of(0, 3), 9);
        x.suit(0, 0);
        x.hour(8);
        x.suit(1, 0);
        x.hears(0);
        x.pays(0);
        due.is("undo of pays", x.undo(), 9);
        due.is("won", x.count(4), 18);
        due.is("undo of hears", x.undo(), 9);
        due.is("won behind it", x.count(4), 0);
        due.is("heard behind it", x.about(0, 3), 0);
        due.is("dues behind it", x.of(0, 3), 18);
        due.is("undo of the second suit", x.undo(), 9);
        due.is("suits behind it", x.count(1), 1);
        due.is("undo of the hours", x.undo(), 1);
        due.is("dues behind it", x.of(0, 3), 9);
        due.is("undo of the first suit", x.undo(), 1);
        due.is("suits behind it", x.count(1), 0);
        due.no(x, "undo of none", x::undo);
    }

    private static void undoKeepsWhatItIsNotToldOf() {
        WindLawyer x = Due.told("island;winds 9 0;user 0 2 1;");
        x.suit(2, 0);
        x.mark(0, 5, 5, 10);
        x.reading(0, 0, 9);
        x.note(0, 1, 1, 1, 3);
        x.calms(0, 1, 5);
        x.undo();
        due.is("readings", x.count(5), 1);
        due.is("notes", x.count(6), 1);
        due.is("marks", x.count(7), 1);
        due.is("fraction", x.part(0), 3);
        due.bad(x, "kinds of a suit gone", () -> x.kinds(0));
        x.suit(0, 0);
        due.is("a mark counts for the next of its number", x.kinds(0), 1 << 1 | 1 << 2 | 1 << 5);
        // Suits filed behind an undo are their own.
        x.suit(1, 0);
        x.undo();
        x.suit(3, 0);
        due.is("about(1, 0)", x.about(1, 0), 3);
    }

    private static void ofAndAbout() {
        WindLawyer x = Due.told("island;winds 9 0;user 0 2 1;user 5 11 4;hours 9;suit 3 1;");
        int[][] users = {{0, 2, 1, 18}, {5, 11, 4, 19 + 19}};
        for (int u = 0; u < 2; u++) {
            for (int what = 0; what < 4; what++) {
                due.is("of(" + u + ", " + what + ")", x.of(u, what), users[u][what]);
            }
        }
        int[] suit = {3, 1, 9, 0};
        for (int what = 0; what < 4; what++) {
            due.is("about(0, " + what + ")", x.about(0, what), suit[what]);
        }
        due.bad(x, "of(-1, 0)", () -> x.of(-1, 0));
        due.bad(x, "of(2, 0)", () -> x.of(2, 0));
        due.bad(x, "of(0, -1)", () -> x.of(0, -1));
        due.bad(x, "of(0, 4)", () -> x.of(0, 4));
        due.bad(x, "about(-1, 0)", () -> x.about(-1, 0));
        due.bad(x, "about(1, 0)", () -> x.about(1, 0));
        due.bad(x, "about(0, -1)", () -> x.about(0, -1));
        due.bad(x, "about(0, 4)", () -> x.about(0, 4));
    }
}
