import java.util.function.Consumer;

/** Promise 7, read: each sentence on THE TEXT that names an edge, each sort of FAULT, has a test of its own. */
public final class ReadEdgesTest {
    private static final Due due = new Due();
    private static final String USER = "user 0 0 1;";
    private static final String SUIT = "suit 0 0;";

    public static void main(String[] args) {
        anEmptyText();
        endsTooEarly();
        aFullTextEndsTooEarly();
        islandOnce();
        islandFirst();
        eachItemIsEnded();
        oneToEightPairs();
        aNinthPair();
        windsOfTheHoursFrom0();
        strengthAndSide();
        numbersOfAUser();
        anEighthUser();
        numbersOfASuit();
        aUserWhoIsNotThereYet();
        aSixthSuit();
        suitsAreFiledThen();
        hoursFrom1To99();
        hoursGoByWhereTheyStand();
        wordsOfLetters();
        aWordThatIsNone();
        oneOrTwoFigures();
        threeFiguresOrMore();
        blanksAreFree();
        blanksAreNeeded();
        aByteThatBeginsNone();
        aSemicolonWhereThereIsNone();
        theFirstTokenThatCanNotStand();
        itTakesThePlaceOfAll();
        itLeavesImages();
        itLeavesTextFractionStatus();
        nothingToUndo();
        aFaultLeavesAll();
        itIsReadAgain();
        due.end();
    }

    private static void items(String text, int items, Consumer<WindLawyer> behind) {
        WindLawyer x = new WindLawyer();
        Due.write(x, text);
        due.is("read of \"" + text + "\"", x.read(), items);
        due.is("its refusals", x.status(0) + x.status(1) + x.status(2), 0);
        behind.accept(x);
    }

    private static void items(String text, int items) {
        items(text, items, x -> { });
    }

    private static void fault(String text, int place) {
        WindLawyer x = new WindLawyer();
        Due.write(x, text);
        due.quiet(x, "read of \"" + text + "\"", x::read, -10 - place);
    }

    private static void anEmptyText() {
        due.sentence("Promise 7, the TEXT's length, of an empty one, too");
        fault("", 0);
    }

    private static void endsTooEarly() {
        due.sentence("Promise 7, the TEXT's length, if it ends too early");
        String[] early = {" ", "island", "island  ", "island;winds", "island;winds ", "island;winds 9", "island;winds 9 0",
            "island;winds 9 0 9", "island;winds 9 0 ", "island;user", "island;user 0", "island;user 0 0", "island;user 0 0 1",
            "island;user 0 0 1 ", "island;" + USER + "suit", "island;" + USER + "suit 0", "island;" + USER + "suit 0 0",
            "island;hours", "island;hours 99", "island;hours 99 "};
        for (String text : early) {
            fault(text, text.length());
        }
    }

    private static void aFullTextEndsTooEarly() {
        due.sentence("Promise 7, the TEXT's length, if one of 150 bytes ends too early");
        fault(" ".repeat(150), 150);
        fault("island;" + " ".repeat(136) + "hours 7", 150);
        fault(" ".repeat(144) + "island", 150);
        items("island;" + " ".repeat(135) + "hours 7;", 2);
        items(" ".repeat(143) + "island;", 1);
        due.sentence("Promise 7, a FAULT in the last of 150 bytes");
        fault("island;" + " ".repeat(142) + ";", 149);
        fault("island;" + " ".repeat(142) + "x", 149);
        fault("island;" + " ".repeat(142) + "9", 149);
    }

    private static void islandOnce() {
        due.sentence("Promise 7, island once");
        items("island;", 1, x -> due.is("count(0)", x.count(0), 0));
        fault("island;island;", 7);
        fault("island;island", 7);
        fault("island;hours 1; island;", 16);
        fault("island island;", 7);
    }

    private static void islandFirst() {
        due.sentence("Promise 7, island first of all: anything ahead of it");
        fault("hours 1;island;", 0);
        fault("winds 9 0;island;", 0);
        fault("user 0 0 1;island;", 0);
        fault("suit", 0);
        fault(" 5 island;", 1);
        fault(";island;", 0);
        fault("  _island;", 2);
    }

    private static void eachItemIsEnded() {
        due.sentence("Promise 7, ITEMS, each ended by ;");
        fault("island user 0 0 1;", 7);
        fault("island;user 0 0 1 user 0 0 1;", 18);
        fault("island;" + USER + "suit 0 0 suit 0 0;", 27);
        fault("island;hours 1 hours 1;", 15);
        fault("island;winds 9 0 winds 9 0;", 17);
        fault("island 1;", 7);
        fault("island;user 0 0 1 1;", 18);
        fault("island;" + USER + "suit 0 0 0;", 27);
        fault("island;hours 1 1;", 15);
        items("island;user 0 0 1;winds 9 0;suit 0 0;hours 1;", 5);
    }

    private static void oneToEightPairs() {
        due.sentence("Promise 7, 1 to 8 pairs: none is too few");
        fault("island;winds;", 12);
        fault("island;winds ;", 13);
        due.sentence("Promise 7, 1 to 8 pairs: one");
        items("island;winds 7 1;", 2, x -> due.is("wind(0, 0, 0)", x.wind(0, 0, 0), 71));
        due.sentence("Promise 7, 1 to 8 pairs: eight");
        items("island;winds 1 0 2 1 3 0 4 1 5 0 6 1 7 0 8 1;", 2, x -> {
            for (int h = 0; h < 8; h++) {
                due.is("wind(" + h + ", 0, 0)", x.wind(h, 0, 0), 10 * (h + 1) + h % 2);
            }
        });
    }

    private static void aNinthPair() {
        due.sentence("Promise 7, a 9th pair");
        String eight = "island;winds" + " 1 0".repeat(8);
        fault(eight + " 1 0;", 45);
        fault(eight + " 1;", 45);
        fault(eight + " 99;", 45);
        fault(eight + " 100;", 45);
        fault(eight + " user 0 0 1;", 45);
        fault(eight, 44);
        items(eight + " ;", 2);
    }

    private static void windsOfTheHoursFrom0() {
        due.sentence("Promise 7, pairs of hours 0, 1, ..; the others stay");
        items("island;winds 1 1 2 1 3 1;winds 20 0 19 0;winds 18 1;", 4, x -> {
            due.is("wind(0, 0, 0)", x.wind(0, 0, 0), 181);
            due.is("wind(1, 0, 0)", x.wind(1, 0, 0), 190);
            due.is("wind(2, 0, 0)", x.wind(2, 0, 0), 31);
            due.is("wind(3, 0, 0)", x.wind(3, 0, 0), 0);
        });
    }

    private static void strengthAndSide() {
        due.sentence("Promise 7, a number not as told: STRENGTH (0 .. 20)");
        items("island;winds 0 0;", 2);
        items("island;winds 20 0;", 2, x -> due.is("wind(0, 0, 0)", x.wind(0, 0, 0), 200));
        fault("island;winds 21 0;", 13);
        fault("island;winds 99 0;", 13);
        fault("island;winds 9 0 21 0;", 17);
        due.sentence("Promise 7, a number not as told: from 0 or 1");
        items("island;winds 9 1;", 2);
        fault("island;winds 9 2;", 15);
        fault("island;winds 9 10;", 15);
        fault("island;winds 9 0 9 2;", 19);
    }

    private static void numbersOfAUser() {
        due.sentence("Promise 7, a number not as told: KIND of a USER");
        items("island;user 5 0 1;", 2, x -> due.is("of(0, 0)", x.of(0, 0), 5));
        fault("island;user 6 0 1;", 12);
        due.sentence("Promise 7, a number not as told: CELL");
        items("island;user 0 11 1;", 2, x -> due.is("of(0, 1)", x.of(0, 1), 11));
        fault("island;user 0 12 1;", 14);
        due.sentence("Promise 7, a number not as told: HEIGHT");
        items("island;user 0 0 1;", 2, x -> due.is("of(0, 2)", x.of(0, 2), 1));
        items("island;user 0 0 4;", 2, x -> due.is("of(0, 2)", x.of(0, 2), 4));
        fault("island;user 0 0 0;", 16);
        fault("island;user 0 0 5;", 16);
    }

    private static void anEighthUser() {
        due.sentence("Promise 7, 7 USERS");
        items("island;" + USER.repeat(6) + "user 5 11 4;", 8, x -> due.is("of(6, 1)", x.of(6, 1), 11));
        due.sentence("Promise 7, an 8th user at its word");
        String seven = "island;" + USER.repeat(7);
        fault(seven + USER, 84);
        fault(seven + "user", 84);
        fault(seven + "  user 6 0 1;", 86);
        fault(seven + "hours 1;user;", 92);
    }

    private static void numbersOfASuit() {
        due.sentence("Promise 7, a number not as told: KIND of a SUIT");
        items("island;" + USER + "suit 5 0;", 3, x -> due.is("about(0, 0)", x.about(0, 0), 5));
        fault("island;" + USER + "suit 6 0;", 23);
    }

    private static void aUserWhoIsNotThereYet() {
        due.sentence("Promise 7, a USER who is not there yet");
        fault("island;suit 0 0;", 14);
        fault("island;" + USER + "suit 0 1;", 25);
        fault("island;suit 0 0;" + USER, 14);
        fault("island;" + USER + "suit 0 1;" + USER, 25);
        items("island;" + USER + USER + "suit 0 1;", 4, x -> due.is("about(0, 1)", x.about(0, 1), 1));
        fault("island;" + USER.repeat(7) + "suit 0 7;", 91);
        items("island;" + USER.repeat(7) + "suit 0 6;", 9, x -> due.is("about(0, 1)", x.about(0, 1), 6));
    }

    private static void aSixthSuit() {
        due.sentence("Promise 7, 5 SUITS");
        items("island;" + USER + SUIT.repeat(5), 7, x -> due.is("count(1)", x.count(1), 5));
        due.sentence("Promise 7, a 6th suit at its word");
        String five = "island;" + USER + SUIT.repeat(5);
        fault(five + SUIT, 63);
        fault(five + "suit", 63);
        fault(five + " suit 6 0;", 64);
        fault(five + "suit 0 1;", 63);
    }

    private static void suitsAreFiledThen() {
        due.sentence("Promise 7, a SUIT is filed then");
        items("island;" + USER + SUIT + "hours 9;" + SUIT + "hours 99;" + SUIT, 7, x -> {
            due.is("about(0, 2)", x.about(0, 2), 0);
            due.is("about(1, 2)", x.about(1, 2), 9);
            due.is("about(2, 2)", x.about(2, 2), 108);
            due.is("about(2, 3)", x.about(2, 3), 0);
        });
    }

    private static void hoursFrom1To99() {
        due.sentence("Promise 7, hours n (1 .. 99)");
        fault("island;hours 0;", 13);
        fault("island;hours 00;", 13);
        items("island;hours 1;", 2, x -> due.is("count(2)", x.count(2), 1));
        items("island;hours 99;", 2, x -> due.is("count(2)", x.count(2), 99));
        fault("island;hours 100;", 13);
        items("island;" + "hours99;".repeat(17), 18, x -> due.is("count(2)", x.count(2), 17 * 99));
    }

    private static void hoursGoByWhereTheyStand() {
        due.sentence("Promise 7, so many HOURS go by, where it stands");
        // 3 of 9 in hour 0, nothing in hour 1; then 2 of 6 in hour 8, 3 more of 9 in hour 9.
        items("island;hours 8;user 0 0 1;winds 6 0 9 0;hours 2;winds 0 0 0 0;hours 9;", 7, x -> {
            due.is("of(0, 3)", x.of(0, 3), 6 + 9);
            due.is("count(2)", x.count(2), 19);
            due.is("count(4)", x.count(4), 0);
        });
    }

    private static void wordsOfLetters() {
        due.sentence("Promise 7, words of letters a .. z");
        fault("Island;", 0);
        fault("ISLAND;", 0);
        fault("island;hourS 1;", 7);
        fault("island;{", 7);
        fault("island;`", 7);
        due.sentence("Promise 7, a KIND is told as its number");
        fault("island;user mill 0 1;", 12);
        fault("island;" + USER + "suit plain 0;", 23);
    }

    private static void aWordThatIsNone() {
        due.sentence("Promise 7, a word that is none");
        String[] none = {"wind 9 0;", "windss 9 0;", "users 0 0 1;", "use 0 0 1;", "suits 0 0;", "hour 1;", "hourss 1;", "a;", "z;",
            "islan;", "islands;", "winda 9 0;", "xuser 0 0 1;"};
        for (String item : none) {
            fault("island;" + item, 7);
        }
        fault("islan;", 0);
        fault("islands;", 0);
        fault("jsland;", 0);
        fault("islane;", 0);
    }

    private static void oneOrTwoFigures() {
        due.sentence("Promise 7, figures (1 or 2 are one number)");
        items("island;hours 7;", 2, x -> due.is("count(2)", x.count(2), 7));
        items("island;hours 07;", 2, x -> due.is("count(2)", x.count(2), 7));
        items("island;hours 70;", 2, x -> due.is("count(2)", x.count(2), 70));
        items("island;hours 19;", 2, x -> due.is("count(2)", x.count(2), 19));
        items("island;user 00 00 01;", 2);
        items("island;user 05 11 04;winds 00 01;", 3);
    }

    private static void threeFiguresOrMore() {
        due.sentence("Promise 7, a run of three figures or more (at its first one)");
        fault("island;hours 001;", 13);
        fault("island;hours 0001;", 13);
        fault("island;winds 009 0;", 13);
        fault("island;winds 9 000;", 15);
        fault("island;user 000 0 1;", 12);
        fault("island;user 0 011 1;", 14);
        fault("island;user 0 0 001;", 16);
        fault("island;" + USER + "suit 000 0;", 23);
        fault("island;" + USER + "suit 0 000;", 25);
        fault("island;hours 111", 13);
        fault("island;hours 1 111;", 15);
        fault("island;111;", 7);
        fault("111", 0);
    }

    private static void blanksAreFree() {
        due.sentence("Promise 7, blanks, any number, ahead of, between and behind TOKENS");
        items("   island   ;   user   0   0   1   ;   ", 2);
        items("island ; winds 9 0 ; " + USER + " suit 0 0 ; hours 1 ; ", 5);
        items("island;" + USER + "  ", 2);
        due.sentence("Promise 7, blanks needed only between two words, two numbers");
        items("island;user0 0 1;winds9 0;suit0 0;hours1;", 5);
        items("island;user0 11 4;", 2);
    }

    private static void blanksAreNeeded() {
        due.sentence("Promise 7, blanks needed between two numbers");
        fault("island;user 00 1;", 16);
        fault("island;user 001;", 12);
        fault("island;winds 10;", 15);
        fault("island;" + USER + "suit 00;", 25);
        due.sentence("Promise 7, blanks needed between two words");
        fault("islandisland;", 0);
        fault("island;hourshours 1;", 7);
    }

    private static void aByteThatBeginsNone() {
        due.sentence("Promise 7, a byte that begins none");
        char[] none = {0, 1, 9, 10, 13, 31, '!', '-', '+', '.', ',', '/', ':', '<', 'A', 'Z', '[', '@', '_', '`', '{', 127};
        for (char c : none) {
            fault(c + "island;", 0);
            fault("island" + c + ";", 6);
            fault("island;" + c, 7);
            fault("island;hours 1" + c + ";", 14);
            fault("island;hours " + c + "1;", 13);
        }
        fault("island;hou_rs 1;", 7);
        fault("isl.and;", 0);
    }

    private static void aSemicolonWhereThereIsNone() {
        due.sentence("Promise 7, ; where there is none");
        fault(";", 0);
        fault("island;;", 7);
        fault("island; ;", 8);
        fault("island;user;", 11);
        fault("island;user 0;", 13);
        fault("island;user 0 0;", 15);
        fault("island;" + USER + "suit;", 22);
        fault("island;" + USER + "suit 0;", 24);
        fault("island;hours;", 12);
        fault("island;winds 9;", 14);
        fault("island;winds 9 0 9;", 18);
        fault("island;hours 1;;", 15);
    }

    private static void theFirstTokenThatCanNotStand() {
        due.sentence("Promise 7, the first TOKEN that can not stand there");
        fault("island;user 6 12 5;", 12);
        fault("island;user 0 12 5;", 14);
        fault("island;winds 21 2;", 13);
        fault("island;hours 0 x;", 13);
        fault("island;" + USER + "suit 6 1;", 23);
        fault("island;x;y;z;", 7);
        fault("x;y;", 0);
        due.sentence("Promise 7, the place of its first byte");
        fault("island;   tower;", 10);
        fault("island;hours   99 99;", 18);
    }

    private static void itTakesThePlaceOfAll() {
        due.sentence("Promise 7, an ISLAND that is read takes the place of all (NOTES, READ ones, MARKS none)");
        WindLawyer x = Twin.full();
        Due.write(x, "island;user 1 2 3;");
        due.is("read()", x.read(), 2);
        int[] counts = {1, 0, 0, 0, 0, 0, 0, 0, 0, 18};
        for (int what = 0; what < 10; what++) {
            due.is("count(" + what + ")", x.count(what), counts[what]);
        }
        for (int h = 0; h < 8; h++) {
            due.is("wind(" + h + ", 0, 0)", x.wind(h, 0, 0), 0);
        }
        due.is("of(0, 3)", x.of(0, 3), 0);
    }

    private static void itLeavesImages() {
        due.sentence("Promise 7, an ISLAND that is read leaves IMAGES");
        WindLawyer x = Twin.half();
        WindLawyer y = Twin.half();
        x.read();
        for (int i = 0; i < 2; i++) {
            due.is("from(" + i + ")", x.from(i), y.from(i));
            due.is("digest of image " + i, x.digest(), y.digest());
            due.is("undo() of image " + i, x.undo(), y.undo());
        }
    }

    private static void itLeavesTextFractionStatus() {
        due.sentence("Promise 7, an ISLAND that is read leaves THE TEXT, THE FRACTION, STATUS");
        WindLawyer x = Twin.half();
        int bytes = x.count(9);
        long above = x.part(0);
        long below = x.part(1);
        x.hour(0);
        x.hears(0);
        x.hears(0);
        due.is("read()", x.read(), 4);
        due.is("count(9)", x.count(9), bytes);
        due.is("part(0)", x.part(0), above);
        due.is("part(1)", x.part(1), below);
        due.is("status(0)", x.status(0), 1);
        due.is("status(1)", x.status(1), 1);
        due.is("status(2)", x.status(2), 0);
    }

    private static void nothingToUndo() {
        due.sentence("Promise 7, nothing to undo behind an ISLAND that is read");
        WindLawyer x = Twin.half();
        Due.write(x, "island;user 1 2 3;hours 5;suit 0 0;hours 9;");
        due.is("read()", x.read(), 5);
        due.is("count(8)", x.count(8), 0);
        due.no(x, "undo()", x::undo);
        x.hour(1);
        due.is("undo() of an hour later", x.undo(), 14);
    }

    private static void aFaultLeavesAll() {
        due.sentence("Promise 7, -10 less the FAULT: all stays");
        String[] faulty = {"", "island", "island;" + USER + "winds 5 1;hours 3;" + SUIT + "suit 0 1;", "island;hours 99;;",
            "island;" + USER.repeat(7) + USER, "winds 1 1;"};
        for (String text : faulty) {
            WindLawyer x = Twin.half();
            WindLawyer y = Twin.half();
            Due.write(x, text);
            Due.write(y, text);
            due.is("read of \"" + text + "\" is a fault", x.read() <= -10 ? 1 : 0, 1);
            due.same("what is left behind \"" + text + "\"", Twin.answers(x), Twin.answers(y));
        }
    }

    private static void itIsReadAgain() {
        due.sentence("Promise 7, THE TEXT stays, so it may be read again");
        WindLawyer x = new WindLawyer();
        Due.write(x, "island;winds 9 0;user 0 2 1;hours 1;suit 0 0;");
        due.is("read()", x.read(), 5);
        long digest = x.digest();
        x.hour(9);
        x.user(0, 0, 1);
        x.hears(0);
        due.is("read() again", x.read(), 5);
        due.is("digest", x.digest(), digest);
        due.sentence("Promise 7, a fault behind an ISLAND that was read leaves that one");
        x.type(59);
        due.is("read() with one byte more", x.read(), -10 - 45);
        due.is("digest but for the byte", x.count(9), 46);
        x.clear();
        Due.write(x, "island;winds 9 0;user 0 2 1;hours 1;suit 0 0;");
        due.is("digest", x.digest(), digest);
    }
}
