/** Promises 1 to 6: each sentence that names an edge has a test of its own. RangesTest and RefusalsTest hold the numbers. */
public final class IslandEdgesTest {
    private static final Due due = new Due();

    public static void main(String[] args) {
        aNewObject();
        aNewObjectHasNoImages();
        islandTellsUsers();
        islandIsAsAtFirst();
        islandLeavesNothingToUndo();
        islandLeavesImages();
        islandLeavesTheText();
        islandLeavesTheFraction();
        islandLeavesStatus();
        windsOfEightHours();
        windsAsTheyWere();
        behindAWindNoneMayBeUndone();
        behindTheSameWindNoneMayBeUndone();
        aRefusedWindLeavesWhatMayBeUndone();
        usersAsTheyCome();
        severalUsersInOneCell();
        duesAre0AtFirst();
        duesOfALaterUserAre0();
        behindAUserNoneMayBeUndone();
        aFullIslandLeavesWhatMayBeUndone();
        bytesFrom0To127();
        theTextHas150Bytes();
        theLast150thByteIsRead();
        clearOfAnEmptyText();
        clearOfAFullText();
        bytesBehindClear();
        due.end();
    }

    private static void aNewObject() {
        due.sentence("Promise 1, as told; no USERS");
        WindLawyer x = new WindLawyer();
        for (int what = 0; what < 10; what++) {
            due.is("count(" + what + ")", x.count(what), 0);
        }
        due.is("part(0)", x.part(0), 0);
        due.is("part(1)", x.part(1), 1);
        due.is("status(0)", x.status(0), 0);
        due.is("status(1)", x.status(1), 0);
        due.is("status(2)", x.status(2), 0);
        due.is("undo()", x.undo(), WindLawyer.NO);
        for (int h = 0; h < 8; h++) {
            due.is("wind(" + h + ", 0, 0)", x.wind(h, 0, 0), 0);
        }
    }

    private static void aNewObjectHasNoImages() {
        due.sentence("Promise 1, no image was kept");
        WindLawyer x = new WindLawyer();
        due.is("from(0)", x.from(0), WindLawyer.NO);
        due.is("from(1)", x.from(1), WindLawyer.NO);
    }

    private static void islandTellsUsers() {
        due.sentence("Promise 2, how many USERS there were");
        due.is("island() of none", new WindLawyer().island(), 0);
        WindLawyer x = Twin.full();
        due.is("island() of 7", x.island(), 7);
        due.is("island() again", x.island(), 0);
    }

    private static void islandIsAsAtFirst() {
        due.sentence("Promise 2, all as at first");
        WindLawyer x = Twin.full();
        x.island();
        x.clear();
        WindLawyer first = new WindLawyer();
        first.user(3, 0, 1);
        first.share(0);
        first.island();
        // A share of nothing is 0 by 1, the fraction at first.
        x.user(3, 0, 1);
        x.share(0);
        x.island();
        due.is("digest", x.digest(), first.digest());
        due.is("digest of a new object", x.digest(), new WindLawyer().digest());
        x.user(0, 0, 1);
        for (int h = 0; h < 8; h++) {
            due.is("takes(0, " + h + ")", x.takes(0, h), 0);
        }
        due.is("suit(0, 0)", x.suit(0, 0), 0);
        due.is("about(0, 2)", x.about(0, 2), 0);
        due.is("about(0, 3)", x.about(0, 3), 0);
    }

    private static void islandLeavesNothingToUndo() {
        due.sentence("Promise 2, nothing to undo");
        WindLawyer x = Twin.half();
        x.island();
        due.no(x, "undo()", x::undo);
    }

    private static void islandLeavesImages() {
        due.sentence("Promise 2, but for IMAGES");
        WindLawyer x = Twin.half();
        WindLawyer y = Twin.half();
        x.island();
        for (int i = 0; i < 2; i++) {
            due.is("from(" + i + ")", x.from(i), y.from(i));
            due.is("digest of image " + i, x.digest(), y.digest());
            due.is("undo() of image " + i, x.undo(), y.undo());
        }
    }

    private static void islandLeavesTheText() {
        due.sentence("Promise 2, but for THE TEXT");
        WindLawyer x = new WindLawyer();
        Due.write(x, "island;user 1 2 3;");
        x.island();
        due.is("count(9)", x.count(9), 18);
        due.is("read()", x.read(), 2);
    }

    private static void islandLeavesTheFraction() {
        due.sentence("Promise 2, but for THE FRACTION");
        WindLawyer x = Due.told("island;winds 9 0;user 0 0 1;");
        x.calms(0, 1, 1);
        x.island();
        due.is("part(0)", x.part(0), 27);
        due.is("part(1)", x.part(1), 10);
    }

    private static void islandLeavesStatus() {
        due.sentence("Promise 2, but for STATUS");
        WindLawyer x = new WindLawyer();
        x.hour(0);
        x.undo();
        x.undo();
        x.island();
        due.is("status(0)", x.status(0), 1);
        due.is("status(1)", x.status(1), 2);
        due.is("status(2)", x.status(2), 0);
    }

    private static void windsOfEightHours() {
        due.sentence("Promise 3, WINDS of the 8 hours of a day, each its own");
        WindLawyer x = new WindLawyer();
        for (int h = 0; h < 8; h++) {
            due.is("wind(" + h + ", " + (20 - h) + ", " + h % 2 + ")", x.wind(h, 20 - h, h % 2), 0);
        }
        for (int h = 0; h < 8; h++) {
            due.is("wind(" + h + ", 0, 0)", x.wind(h, 0, 0), 10 * (20 - h) + h % 2);
        }
    }

    private static void windsAsTheyWere() {
        due.sentence("Promise 3, 10 times its STRENGTH and its side, as they were");
        WindLawyer x = new WindLawyer();
        due.is("wind(7, 20, 1)", x.wind(7, 20, 1), 0);
        due.is("wind(7, 0, 1)", x.wind(7, 0, 1), 201);
        due.is("wind(7, 20, 0)", x.wind(7, 20, 0), 1);
        due.is("wind(7, 0, 0)", x.wind(7, 0, 0), 200);
        due.is("wind(7, 1, 0)", x.wind(7, 1, 0), 0);
        due.is("wind(7, 1, 0) again", x.wind(7, 1, 0), 10);
    }

    private static void behindAWindNoneMayBeUndone() {
        due.sentence("Promise 12, behind a WIND told none may be undone");
        WindLawyer x = Twin.half();
        x.wind(3, 20, 1);
        due.is("count(8)", x.count(8), 0);
        due.no(x, "undo()", x::undo);
        x.hour(1);
        due.is("count(8) of an hour later", x.count(8), 1);
    }

    private static void behindTheSameWindNoneMayBeUndone() {
        due.sentence("Promise 12, behind a WIND told none may be undone, also if it is as it was");
        WindLawyer x = Twin.half();
        x.wind(0, 9, 0);
        due.is("count(8)", x.count(8), 0);
        due.no(x, "undo()", x::undo);
    }

    private static void aRefusedWindLeavesWhatMayBeUndone() {
        due.sentence("Promise 3, a refused WIND changes nothing");
        WindLawyer x = Twin.half();
        int mayBe = x.count(8);
        x.wind(0, 21, 0);
        due.is("count(8)", x.count(8), mayBe);
    }

    private static void usersAsTheyCome() {
        due.sentence("Promise 4, the number: 0 .. 6, as they come");
        WindLawyer x = new WindLawyer();
        for (int u = 0; u < 7; u++) {
            due.is("user " + u, x.user(u % 6, 11 - u, 1 + u % 4), u);
        }
        for (int u = 0; u < 7; u++) {
            due.is("of(" + u + ", 0)", x.of(u, 0), u % 6);
            due.is("of(" + u + ", 1)", x.of(u, 1), 11 - u);
            due.is("of(" + u + ", 2)", x.of(u, 2), 1 + u % 4);
        }
        due.full(x, "an 8th", () -> x.user(0, 0, 1));
        due.is("count(0)", x.count(0), 7);
    }

    private static void severalUsersInOneCell() {
        due.sentence("Promise 4, several may be in one CELL");
        WindLawyer x = new WindLawyer();
        for (int u = 0; u < 7; u++) {
            due.is("user " + u + " in cell 11", x.user(3, 11, 4), u);
        }
        x.wind(0, 9, 1);
        due.is("blows(11, 0, 1) behind 7 of washing", x.blows(11, 0, 1), 2);
    }

    private static void duesAre0AtFirst() {
        due.sentence("Promise 4, DUES of each are 0 at first");
        WindLawyer x = Due.told("island;winds 9 0;user 0 0 1;hours 1;");
        x.user(0, 1, 1);
        due.is("of(1, 3)", x.of(1, 3), 0);
        due.is("of(0, 3)", x.of(0, 3), 9);
    }

    private static void duesOfALaterUserAre0() {
        due.sentence("Promise 4, DUES of each are 0 at first, also where one with DUES was");
        WindLawyer x = Due.told("island;winds 9 0;user 0 0 1;hours 1;");
        x.island();
        x.user(0, 0, 1);
        due.is("of(0, 3)", x.of(0, 3), 0);
    }

    private static void behindAUserNoneMayBeUndone() {
        due.sentence("Promise 12, behind a USER that comes none may be undone");
        WindLawyer x = Twin.half();
        x.user(0, 0, 1);
        due.is("count(8)", x.count(8), 0);
        due.no(x, "undo()", x::undo);
    }

    private static void aFullIslandLeavesWhatMayBeUndone() {
        due.sentence("Promise 4, a refused USER changes nothing");
        WindLawyer x = Twin.full();
        int mayBe = x.count(8);
        x.user(0, 0, 1);
        due.is("count(8) behind an 8th user", x.count(8), mayBe);
        x.user(0, 12, 1);
        due.is("count(8) behind a BAD one", x.count(8), mayBe);
    }

    private static void bytesFrom0To127() {
        due.sentence("Promise 5, a byte (0 .. 127): how many THE TEXT has");
        WindLawyer x = new WindLawyer();
        for (int c = 0; c < 128; c++) {
            due.is("type(" + c + ")", x.type(c), c + 1);
        }
        due.bad(x, "type(128)", () -> x.type(128));
        due.bad(x, "type(-1)", () -> x.type(-1));
        due.bad(x, "type(160)", () -> x.type(160));
        due.is("count(9)", x.count(9), 128);
    }

    private static void theTextHas150Bytes() {
        due.sentence("Promise 5, FULL: THE TEXT has 150 bytes at most");
        WindLawyer x = new WindLawyer();
        for (int n = 1; n <= 149; n++) {
            x.type(59);
        }
        due.is("the 150th", x.type(59), 150);
        due.full(x, "the 151st", () -> x.type(59));
        due.full(x, "the 151st again", () -> x.type(59));
        due.is("count(9)", x.count(9), 150);
    }

    private static void theLast150thByteIsRead() {
        due.sentence("Promise 5, the 150th byte stands in THE TEXT, a 151st does not");
        WindLawyer x = new WindLawyer();
        Due.write(x, "island;" + " ".repeat(135) + "hours 7;;");
        due.is("count(9)", x.count(9), 150);
        due.is("read()", x.read(), 2);
        due.is("count(2)", x.count(2), 7);
    }

    private static void clearOfAnEmptyText() {
        due.sentence("Promise 6, how many it had: none");
        WindLawyer x = new WindLawyer();
        due.quiet(x, "clear()", x::clear, 0);
    }

    private static void clearOfAFullText() {
        due.sentence("Promise 6, how many it had: 150");
        WindLawyer x = Twin.full();
        due.is("clear()", x.clear(), 150);
        due.is("count(9)", x.count(9), 0);
        due.is("read()", x.read(), -10);
        due.is("clear() again", x.clear(), 0);
    }

    private static void bytesBehindClear() {
        due.sentence("Promise 6, THE TEXT is empty, and bytes come again");
        WindLawyer x = Twin.full();
        x.clear();
        due.is("type(105)", x.type(105), 1);
        for (int n = 2; n <= 150; n++) {
            x.type(32);
        }
        due.full(x, "type(32)", () -> x.type(32));
    }
}
