/** Promises 1 to 7: a new object, island, wind, user, type, clear, read. */
public final class IslandTest {
    private static final Due due = new Due();

    public static void main(String[] args) {
        newObject();
        island();
        wind();
        user();
        typeAndClear();
        readsWholeIslands();
        readTakesThePlaceOfAllElse();
        readTellsFaults();
        readLeavesAllAtAFault();
        due.end();
    }

    private static void newObject() {
        WindLawyer x = new WindLawyer();
        due.is("NONE", WindLawyer.NONE, -1);
        due.is("BAD", WindLawyer.BAD, -2);
        due.is("NO", WindLawyer.NO, -3);
        due.is("FULL", WindLawyer.FULL, -4);
        for (int what = 0; what < 10; what++) {
            due.is("new: count(" + what + ")", x.count(what), 0);
        }
        due.is("new: part(0)", x.part(0), 0);
        due.is("new: part(1)", x.part(1), 1);
        for (int what = 0; what < 3; what++) {
            due.is("new: status(" + what + ")", x.status(what), 0);
        }
        for (int h = 0; h < 8; h++) {
            due.is("new: wind(" + h + ", 0, 0)", x.wind(h, 0, 0), 0);
        }
        due.no(x, "new: undo()", x::undo);
        due.no(x, "new: from(0)", () -> x.from(0));
        due.no(x, "new: from(1)", () -> x.from(1));
    }

    private static void island() {
        WindLawyer x = Due.told("island;winds 9 1 9 1 9 1 9 1;user 0 3 2;user 5 4 1;hours 3;suit 0 1;");
        x.reading(0, 0, 0);
        x.note(0, 1, 2, 3, 4);
        x.mark(0, 1, 2, 3);
        x.calms(0, 1, 3);
        x.image(1);
        x.hears(0);
        x.type(65);
        x.type(-1);
        long above = x.part(0);
        due.is("the fraction ahead of it", above, 21);
        due.is("island()", x.island(), 2);
        for (int what = 0; what < 9; what++) {
            due.is("island: count(" + what + ")", x.count(what), 0);
        }
        due.is("island: count(9)", x.count(9), 1);
        due.is("island: part(0)", x.part(0), above);
        due.is("island: status(0)", x.status(0), 1);
        due.is("island: wind(0, 0, 0)", x.wind(0, 0, 0), 0);
        due.is("island() again", x.island(), 0);
        due.is("island: from(1)", x.from(1), 1);
        due.is("island: count(0) of the image", x.count(0), 2);
    }

    private static void wind() {
        WindLawyer x = new WindLawyer();
        due.is("wind(0, 20, 1)", x.wind(0, 20, 1), 0);
        due.is("wind(0, 0, 0)", x.wind(0, 0, 0), 201);
        due.is("wind(7, 13, 0)", x.wind(7, 13, 0), 0);
        due.is("wind(7, 1, 1)", x.wind(7, 1, 1), 130);
        due.is("wind(7, 1, 1) again", x.wind(7, 1, 1), 11);
        due.bad(x, "wind(-1, 0, 0)", () -> x.wind(-1, 0, 0));
        due.bad(x, "wind(8, 0, 0)", () -> x.wind(8, 0, 0));
        due.bad(x, "wind(0, -1, 0)", () -> x.wind(0, -1, 0));
        due.bad(x, "wind(0, 21, 0)", () -> x.wind(0, 21, 0));
        due.bad(x, "wind(0, 0, -1)", () -> x.wind(0, 0, -1));
        due.bad(x, "wind(0, 0, 2)", () -> x.wind(0, 0, 2));
        due.bad(x, "wind(least)", () -> x.wind(Integer.MIN_VALUE, 0, 0));
        due.bad(x, "wind(most)", () -> x.wind(Integer.MAX_VALUE, 0, 0));
        x.hour(1);
        x.wind(9, 0, 0);
        due.is("a refused wind leaves what may be undone", x.count(8), 1);
        x.wind(7, 1, 1);
        due.is("a wind told leaves none", x.count(8), 0);
        due.no(x, "undo() behind a wind", x::undo);
        due.is("the hour stays", x.count(2), 1);
    }

    private static void user() {
        WindLawyer x = new WindLawyer();
        due.is("user(5, 11, 4)", x.user(5, 11, 4), 0);
        due.is("user(0, 0, 1)", x.user(0, 0, 1), 1);
        due.bad(x, "user(-1, 0, 1)", () -> x.user(-1, 0, 1));
        due.bad(x, "user(6, 0, 1)", () -> x.user(6, 0, 1));
        due.bad(x, "user(0, -1, 1)", () -> x.user(0, -1, 1));
        due.bad(x, "user(0, 12, 1)", () -> x.user(0, 12, 1));
        due.bad(x, "user(0, 0, 0)", () -> x.user(0, 0, 0));
        due.bad(x, "user(0, 0, 5)", () -> x.user(0, 0, 5));
        x.hour(1);
        due.is("user(1, 2, 3)", x.user(1, 2, 3), 2);
        due.no(x, "undo() behind a user", x::undo);
        for (int u = 3; u < 7; u++) {
            due.is("user " + u, x.user(1, 2, 3), u);
        }
        x.hour(1);
        due.full(x, "an 8th user", () -> x.user(0, 0, 1));
        due.bad(x, "an 8th user that is BAD", () -> x.user(0, 0, 5));
        due.is("what may be undone stays", x.count(8), 1);
        due.is("count(0)", x.count(0), 7);
        due.is("of(6, 1)", x.of(6, 1), 2);
    }

    private static void typeAndClear() {
        WindLawyer x = new WindLawyer();
        due.is("clear() of an empty text", x.clear(), 0);
        due.is("type(0)", x.type(0), 1);
        due.is("type(127)", x.type(127), 2);
        due.bad(x, "type(-1)", () -> x.type(-1));
        due.bad(x, "type(128)", () -> x.type(128));
        for (int n = 3; n <= 150; n++) {
            due.is("byte " + n, x.type(32), n);
        }
        due.full(x, "a 151st byte", () -> x.type(32));
        due.bad(x, "a 151st byte that is none", () -> x.type(200));
        due.is("clear()", x.clear(), 150);
        due.is("count(9)", x.count(9), 0);
        due.is("type(32) behind clear", x.type(32), 1);
    }

    private static int readOf(String text) {
        WindLawyer x = new WindLawyer();
        Due.write(x, text);
        return x.read();
    }

    private static void items(String text, int items) {
        due.is("read of \"" + text + "\"", readOf(text), items);
    }

    private static void fault(String text, int place) {
        WindLawyer x = new WindLawyer();
        Due.write(x, text);
        due.quiet(x, "read of \"" + text + "\"", x::read, -10 - place);
    }

    private static void readsWholeIslands() {
        items("island;", 1);
        items("  island  ;  ", 1);
        items("island;user0 0 1;user 5 11 4;", 3);
        items("island;winds9 0 12 1;winds 0 0;", 3);
        items("island;winds 0 0 1 1 2 0 3 1 4 0 5 1 6 0 20 1;", 2);
        items("island;hours1;hours 99;hours 05;", 4);
        items("island;user 0 0 1;suit5 0;suit 0 0;suit 0 0;suit 0 0;suit 0 0;", 7);
        items("island;" + "user 0 0 1;".repeat(7), 8);
        items("island;" + " ".repeat(143), 1);
        WindLawyer x = Due.told("island;winds 9 0 6 1;user 1 2 3;user 0 4 1;hours 1;suit 2 1;winds 3 0;hours 9;suit 1 0;");
        due.is("read: count(2)", x.count(2), 10);
        due.is("read: of(0, 0)", x.of(0, 0), 1);
        due.is("read: of(0, 1)", x.of(0, 1), 2);
        due.is("read: of(0, 2)", x.of(0, 2), 3);
        due.is("read: about(0, 0)", x.about(0, 0), 2);
        due.is("read: about(0, 1)", x.about(0, 1), 1);
        due.is("read: about(0, 2)", x.about(0, 2), 1);
        due.is("read: about(1, 2)", x.about(1, 2), 10);
        // The mill at cell 4: 3 of 9 in hour 0, 2 of 6 in hour 1 and in 9, 1 of 3 in hour 8.
        due.is("read: of(1, 3)", x.of(1, 3), 3 * (3 + 2 + 1 + 2));
        due.is("read: the winds as told last", x.wind(0, 0, 0), 30);
        due.is("read: the winds that were not told again", x.wind(1, 0, 0), 61);
    }

    private static void readTakesThePlaceOfAllElse() {
        WindLawyer x = Due.told("island;winds 9 0;user 0 2 1;");
        x.hour(5);
        x.suit(0, 0);
        x.hears(0);
        x.reading(0, 0, 0);
        x.note(0, 1, 1, 1, 1);
        x.mark(0, 1, 1, 1);
        x.image(0);
        x.calms(0, 8, 0);
        x.type(500);
        Due.write(x, "island;user 1 1 1;user 1 1 1;");
        due.is("read()", x.read(), 3);
        int[] counts = {2, 0, 0, 0, 0, 0, 0, 0, 0, 29};
        for (int what = 0; what < 10; what++) {
            due.is("read: count(" + what + ")", x.count(what), counts[what]);
        }
        due.no(x, "read: undo()", x::undo);
        due.is("read: the fraction stays", x.part(0), 3);
        due.is("read: status stays", x.status(0), 1);
        due.is("read: wind(0, 0, 0)", x.wind(0, 0, 0), 0);
        due.is("read: the image stays", x.from(0), 1);
        due.is("read: the hour of the image", x.count(2), 5);
        due.is("read: the text stays", x.count(9), 29);
        Due.write(x, "island;hours 5;");
        x.read();
        due.no(x, "read: hours told are not undone", x::undo);
    }

    private static void readTellsFaults() {
        fault("", 0);
        fault("   ", 3);
        fault("island", 6);
        fault("island ", 7);
        fault("islan", 0);
        fault("islands;", 0);
        fault(" ;island;", 1);
        fault("user 0 0 1;island;", 0);
        fault("5;", 0);
        fault("island;island;", 7);
        fault("island;;", 7);
        fault("island;5;", 7);
        fault("island 5;", 7);
        fault("island;tower;", 7);
        fault("island;Hours 5;", 7);
        fault("island;hours island;", 13);
        fault("island;hours", 12);
        fault("island;hours;", 12);
        fault("island;hours 0;", 13);
        fault("island;hours 100;", 13);
        fault("island;hours 1", 14);
        fault("island;hours 1 2;", 15);
        fault("island;hours -1;", 13);
        fault("island;winds;", 12);
        fault("island;winds 20 2;", 16);
        fault("island;winds 21 0;", 13);
        fault("island;winds 20;", 15);
        fault("island;winds 20 0 5;", 19);
        fault("island;winds 20 user 0 0 1;", 16);
        fault("island;winds 20 0 user 0 0 1;", 18);
        fault("island;winds 0 0 0 0 0 0 0 0 0 0 0 0 0 0 0 0 0 0;", 45);
        fault("island;winds 000;", 13);
        fault("island;user 6 0 1;", 12);
        fault("island;user 0 12 1;", 14);
        fault("island;user 0 0 0;", 16);
        fault("island;user 0 0 5;", 16);
        fault("island;user 0 0;", 15);
        fault("island;user mill 0 1;", 12);
        fault("island;user 0 0 1 1;", 18);
        fault("island;" + "user 0 0 1;".repeat(7) + "user;", 84);
        fault("island;suit 0 0;", 14);
        fault("island;user 0 0 1;suit 0 1;", 25);
        fault("island;user 0 0 1;suit 6 0;", 23);
        fault("island;user 0 0 1;" + "suit 0 0;".repeat(5) + "suit;", 63);
        fault("island;hours 1;_", 15);
        fault("island;hours 1_;", 14);
        fault("island;\thours 1;", 7);
        fault("islandhours;", 0);
    }

    private static void readLeavesAllAtAFault() {
        WindLawyer x = Due.told("island;winds 9 0;user 0 2 1;hours 3;suit 0 0;");
        x.hour(1);
        x.reading(1, 2, 3);
        x.note(0, 1, 1, 1, 1);
        x.mark(0, 1, 1, 1);
        Due.write(x, "island;winds 5 1;user 0 2 1;user 1 1 1;hours 30;suit 0 1;hours 0;");
        due.quiet(x, "a late fault", x::read, -10 - 63);
        due.is("a late fault: what may be undone", x.undo(), 3);
    }
}
