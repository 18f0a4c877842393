/** Promises 24 to 35: reading, stood, note, mark, forget, is, look, kinds, tries, parties, calms, years. */
public final class EvidenceTest {
    private static final Due due = new Due();

    public static void main(String[] args) {
        reading();
        stood();
        note();
        mark();
        forget();
        is();
        look();
        kinds();
        tries();
        parties();
        calms();
        years();
        due.end();
    }

    private static void reading() {
        WindLawyer x = new WindLawyer();
        due.bad(x, "reading(-1, 0, 0)", () -> x.reading(-1, 0, 0));
        due.bad(x, "reading(8, 0, 0)", () -> x.reading(8, 0, 0));
        due.bad(x, "reading(0, -1, 0)", () -> x.reading(0, -1, 0));
        due.bad(x, "reading(0, 12, 0)", () -> x.reading(0, 12, 0));
        due.bad(x, "reading(0, 0, -1)", () -> x.reading(0, 0, -1));
        due.bad(x, "reading(0, 0, 21)", () -> x.reading(0, 0, 21));
        due.is("reading(7, 11, 20)", x.reading(7, 11, 20), 1);
        due.is("reading(0, 0, 0)", x.reading(0, 0, 0), 2);
        due.is("a third", x.reading(0, 0, 0), 3);
        due.is("a fourth", x.reading(0, 0, 0), 4);
        due.full(x, "a fifth", () -> x.reading(0, 0, 0));
        due.bad(x, "a fifth that is BAD", () -> x.reading(8, 0, 0));
        due.is("count(5)", x.count(5), 4);
    }

    private static void stoodIs(WindLawyer x, int sets, int inAll, int inSome) {
        due.quiet(x, "stood(0)", () -> x.stood(0), sets);
        due.quiet(x, "stood(1)", () -> x.stood(1), inAll);
        due.quiet(x, "stood(2)", () -> x.stood(2), inSome);
    }

    private static void stood() {
        WindLawyer x = Due.told("island;winds 9 0 9 1;user 0 2 1;user 0 2 1;user 3 8 1;");
        stoodIs(x, 8, 0, 7);
        // Behind cell 2 were 6: one of the mills.
        x.reading(0, 2, 6);
        stoodIs(x, 4, 0, 7);
        // Behind cell 8, from the other side, 8: the washing too.
        x.reading(1, 8, 8);
        stoodIs(x, 2, 4, 7);
        // Behind cell 0 there is what came back: 6, 7, 8.
        x.reading(1, 0, 8);
        stoodIs(x, 2, 4, 7);
        x.reading(7, 0, 1);
        stoodIs(x, 0, WindLawyer.NONE, 0);
        x.forget(0);
        // Both mills: 3 of 9 and 2 of 6.
        x.reading(0, 2, 4);
        stoodIs(x, 2, 3, 7);
        x.reading(0, 8, 9);
        stoodIs(x, 1, 3, 3);
        WindLawyer empty = new WindLawyer();
        stoodIs(empty, 1, 0, 0);
        empty.reading(0, 0, 1);
        stoodIs(empty, 0, -1, 0);
        WindLawyer seven = Due.told("island;" + "user 3 0 1;".repeat(7));
        stoodIs(seven, 128, 0, 127);
        seven.wind(3, 20, 0);
        seven.reading(3, 0, 13);
        stoodIs(seven, 1, 127, 127);
        due.bad(x, "stood(-1)", () -> x.stood(-1));
        due.bad(x, "stood(3)", () -> x.stood(3));
    }

    private static void note() {
        WindLawyer x = new WindLawyer();
        due.bad(x, "a note of a user who is not there", () -> x.note(0, 1, 0, 0, 0));
        x.user(0, 0, 1);
        due.bad(x, "note(-1, 1, 0, 0, 0)", () -> x.note(-1, 1, 0, 0, 0));
        due.bad(x, "note(1, 1, 0, 0, 0)", () -> x.note(1, 1, 0, 0, 0));
        due.bad(x, "note(0, 0, 0, 0, 0)", () -> x.note(0, 0, 0, 0, 0));
        due.bad(x, "note(0, 5, 0, 0, 0)", () -> x.note(0, 5, 0, 0, 0));
        due.bad(x, "note(0, 1, -1, 0, 0)", () -> x.note(0, 1, -1, 0, 0));
        due.bad(x, "note(0, 1, 21, 0, 0)", () -> x.note(0, 1, 21, 0, 0));
        due.bad(x, "note(0, 1, 0, -1, 0)", () -> x.note(0, 1, 0, -1, 0));
        due.bad(x, "note(0, 1, 0, 21, 0)", () -> x.note(0, 1, 0, 21, 0));
        due.bad(x, "note(0, 1, 0, 0, -1)", () -> x.note(0, 1, 0, 0, -1));
        due.bad(x, "note(0, 1, 0, 0, 201)", () -> x.note(0, 1, 0, 0, 201));
        due.is("note(0, 4, 20, 20, 200)", x.note(0, 4, 20, 20, 200), 1);
        for (int n = 2; n <= 6; n++) {
            due.is("note " + n, x.note(0, 1, 0, 0, 0), n);
        }
        due.full(x, "a 7th note", () -> x.note(0, 1, 0, 0, 0));
        due.bad(x, "a 7th note that is BAD", () -> x.note(0, 0, 0, 0, 0));
        due.is("count(6)", x.count(6), 6);
    }

    private static void mark() {
        WindLawyer x = new WindLawyer();
        x.user(0, 0, 1);
        due.bad(x, "a mark of a suit that is not there", () -> x.mark(0, 0, 0, 0));
        x.suit(0, 0);
        due.bad(x, "mark(-1, 0, 0, 0)", () -> x.mark(-1, 0, 0, 0));
        due.bad(x, "mark(1, 0, 0, 0)", () -> x.mark(1, 0, 0, 0));
        due.bad(x, "mark(0, -1, 0, 0)", () -> x.mark(0, -1, 0, 0));
        due.bad(x, "mark(0, 201, 0, 0)", () -> x.mark(0, 201, 0, 0));
        due.bad(x, "mark(0, 0, -1, 0)", () -> x.mark(0, 0, -1, 0));
        due.bad(x, "mark(0, 0, 100, 0)", () -> x.mark(0, 0, 100, 0));
        due.bad(x, "mark(0, 0, 0, -1)", () -> x.mark(0, 0, 0, -1));
        due.bad(x, "mark(0, 0, 0, 1000)", () -> x.mark(0, 0, 0, 1000));
        due.is("mark(0, 200, 99, 999)", x.mark(0, 200, 99, 999), 1);
        x.hears(0);
        for (int n = 2; n <= 6; n++) {
            due.is("mark " + n + " of a suit heard", x.mark(0, 0, 0, 0), n);
        }
        due.full(x, "a 7th mark", () -> x.mark(0, 0, 0, 0));
        due.bad(x, "a 7th mark that is BAD", () -> x.mark(0, 0, 0, 1000));
        due.is("count(7)", x.count(7), 6);
    }

    private static void forget() {
        WindLawyer x = Due.told("island;user 0 0 1;suit 0 0;");
        x.reading(0, 0, 0);
        x.note(0, 1, 0, 0, 0);
        x.note(0, 1, 0, 0, 0);
        x.mark(0, 0, 0, 0);
        x.mark(0, 0, 0, 0);
        x.mark(0, 0, 0, 0);
        due.bad(x, "forget(-1)", () -> x.forget(-1));
        due.bad(x, "forget(3)", () -> x.forget(3));
        due.is("forget(1)", x.forget(1), 2);
        due.is("readings stay", x.count(5), 1);
        due.is("no notes", x.count(6), 0);
        due.is("marks stay", x.count(7), 3);
        due.is("forget(0)", x.forget(0), 1);
        due.is("forget(2)", x.forget(2), 3);
        due.is("forget(2) again", x.forget(2), 0);
        due.is("no readings", x.count(5), 0);
        due.is("no marks", x.count(7), 0);
    }

    private static void is() {
        WindLawyer x = Due.told("island;user 0 0 1;user 0 0 2;");
        due.quiet(x, "is(0)", () -> x.is(0), 63);
        // Of 3, by height 2: mill 1, sail 0, kite 1, washing 1, clipper 2, church 2.
        x.note(0, 2, 3, 1, 3);
        due.quiet(x, "a mill", () -> x.is(0), 1);
        due.quiet(x, "the other user", () -> x.is(1), 63);
        x.note(1, 2, 0, 0, 0);
        due.quiet(x, "no wind tells nothing", () -> x.is(1), 63);
        x.note(1, 1, 1, 1, 4);
        due.quiet(x, "a kite or a church", () -> x.is(1), 1 << 2 | 1 << 5);
        x.note(1, 1, 20, 2, 7);
        due.quiet(x, "a church", () -> x.is(1), 1 << 5);
        x.note(0, 1, 3, 1, 4);
        due.quiet(x, "none", () -> x.is(0), 0);
        x.forget(1);
        x.note(0, 1, 20, 3, 9);
        due.quiet(x, "a sail", () -> x.is(0), 1 << 1);
        x.note(1, 4, 20, 7, 42);
        due.quiet(x, "a clipper", () -> x.is(1), 1 << 4);
        x.note(1, 4, 20, 7, 21);
        due.quiet(x, "no more", () -> x.is(1), 0);
        x.forget(1);
        x.note(0, 1, 20, 1, 0);
        due.quiet(x, "a washing", () -> x.is(0), 1 << 3);
        x.note(1, 1, 5, 2, 5);
        due.quiet(x, "the rent does not fit", () -> x.is(1), 0);
        due.bad(x, "is(-1)", () -> x.is(-1));
        due.bad(x, "is(2)", () -> x.is(2));
    }

    private static void look() {
        WindLawyer x = Due.told("island;user 0 0 1;user 0 0 4;");
        // Height 1, wind 1: kite and church alike; wind 2: mill 1 3, sail 0 0, kite 1 4, washing 1 0, clipper 1 6, church 2 7.
        due.quiet(x, "look(0) of all", () -> x.look(0), 2);
        x.note(0, 1, 1, 1, 4);
        due.quiet(x, "look(0), kite or church", () -> x.look(0), 2);
        x.note(0, 1, 2, 1, 4);
        due.quiet(x, "look(0) of one kind", () -> x.look(0), 0);
        x.note(0, 1, 2, 1, 3);
        due.quiet(x, "look(0) of no kind", () -> x.look(0), WindLawyer.NONE);
        // By height 4, its own, whatever the note's was: of 2 a kite takes 1, a church 2.
        x.note(1, 1, 1, 1, 4);
        due.quiet(x, "look(1)", () -> x.look(1), 2);
        x.forget(1);
        // Without wind all take nothing, so such a note leaves all six.
        x.note(0, 1, 0, 0, 0);
        due.quiet(x, "look(0) behind a note of no wind", () -> x.look(0), 2);
        due.bad(x, "look(-1)", () -> x.look(-1));
        due.bad(x, "look(2)", () -> x.look(2));
        WindLawyer y = Due.told("island;user 2 0 4;");
        // Only a sail takes nothing of 3.
        y.note(0, 4, 3, 0, 0);
        due.is("is(0)", y.is(0), 1 << 1);
        due.is("look(0) of a sail", y.look(0), 0);
    }

    private static void kinds() {
        WindLawyer x = Due.told("island;user 0 0 1;suit 0 0;suit 0 0;");
        due.quiet(x, "kinds(0)", () -> x.kinds(0), 63);
        x.mark(0, 10, 0, 10);
        due.quiet(x, "plain or damage", () -> x.kinds(0), 1 | 1 << 2);
        x.mark(0, 10, 8, 18);
        due.quiet(x, "damage", () -> x.kinds(0), 1 << 2);
        due.quiet(x, "the other suit", () -> x.kinds(1), 63);
        x.mark(1, 20, 0, 40);
        due.quiet(x, "theft or shutter", () -> x.kinds(1), 1 << 1 | 1 << 5);
        x.mark(1, 21, 0, 40);
        due.quiet(x, "shutter", () -> x.kinds(1), 1 << 5);
        x.mark(0, 10, 8, 10);
        due.quiet(x, "none", () -> x.kinds(0), 0);
        x.forget(2);
        x.mark(0, 9, 0, 5);
        due.quiet(x, "a will, half cut up", () -> x.kinds(0), 1 << 3);
        x.mark(1, 9, 7, 0);
        due.quiet(x, "forgotten", () -> x.kinds(1), 1 << 4);
        x.mark(1, 9, 8, 34);
        due.quiet(x, "forgotten, 8 hours old", () -> x.kinds(1), 1 << 4);
        x.mark(1, 9, 8, 33);
        due.quiet(x, "not that", () -> x.kinds(1), 0);
        due.bad(x, "kinds(-1)", () -> x.kinds(-1));
        due.bad(x, "kinds(2)", () -> x.kinds(2));
    }

    private static void tries() {
        WindLawyer x = Due.told("island;user 0 0 1;suit 0 0;suit 0 0;suit 0 0;");
        // All six differ first by dues 21: 21, 42, 22, 11, 0, 40, an hour old.
        due.quiet(x, "tries(0) of all", () -> x.tries(0), 211);
        x.mark(0, 20, 0, 40);
        due.quiet(x, "theft or shutter: 42 and 40", () -> x.tries(0), 210);
        x.mark(1, 10, 0, 10);
        due.quiet(x, "plain or damage: 0 and 1", () -> x.tries(1), 1);
        x.mark(1, 10, 1, 10);
        due.quiet(x, "plain alone", () -> x.tries(1), 0);
        x.mark(1, 10, 1, 11);
        due.quiet(x, "no kind", () -> x.tries(1), WindLawyer.NONE);
        // By dues 1 a plain one, a damage and a will, no hours old, are 1; by dues 2, an hour old, 2, 3, 1.
        x.mark(2, 1, 0, 1);
        due.quiet(x, "kinds(2)", () -> x.kinds(2), 1 | 1 << 2 | 1 << 3);
        due.quiet(x, "2, 3, 1", () -> x.tries(2), 21);
        due.bad(x, "tries(-1)", () -> x.tries(-1));
        due.bad(x, "tries(3)", () -> x.tries(3));
    }

    /** A suit of a kind for a mill's dues, that many hours old. */
    private static int pairsThatRest(int kind, int dues, int age) {
        WindLawyer x = new WindLawyer();
        x.user(0, 0, 1);
        for (int i = 0; i < dues / 3; i++) {
            x.wind(i % 8, 1, 0);
            x.hour(1);
            x.wind(i % 8, 0, 0);
        }
        x.suit(kind, 0);
        if (age > 0) {
            x.hour(age);
        }
        long digest = x.digest();
        int bits = x.parties(0);
        due.is("parties changes nothing", x.digest(), digest);
        return bits;
    }

    private static void parties() {
        due.is("plain, 3 due: suing costs more", pairsThatRest(0, 3, 0), 1);
        due.is("plain, 6 due: the wind sues", pairsThatRest(0, 6, 0), 2);
        due.is("theft, 3 due: none rests", pairsThatRest(1, 3, 0), 0);
        due.is("will, 9 due, 5 awarded: both ways", pairsThatRest(3, 9, 0), 1 | 2);
        due.is("will, 12 due: the wind sues", pairsThatRest(3, 12, 0), 2);
        due.is("plain, nothing due", pairsThatRest(0, 0, 0), 1 | 4);
        due.is("damage, nothing due, 5 hours old", pairsThatRest(2, 0, 5), 1 | 4);
        due.is("damage, nothing due, 6 hours old", pairsThatRest(2, 0, 6), 4);
        due.is("shutter, 42 due, 40 awarded", pairsThatRest(5, 42, 0), 2);
        due.is("forgotten, 12 due", pairsThatRest(4, 12, 0), 1);
        WindLawyer x = Due.told("island;user 0 0 1;suit 0 0;");
        due.bad(x, "parties(-1)", () -> x.parties(-1));
        due.bad(x, "parties(1)", () -> x.parties(1));
        x.hears(0);
        due.no(x, "parties of a suit heard", () -> x.parties(0));
    }

    private static void calmsAre(WindLawyer x, int u, int n, int c, long above, long below) {
        String call = "calms(" + u + ", " + n + ", " + c + ")";
        due.is(call, x.calms(u, n, c), 1);
        due.is(call + ": above", x.part(0), above);
        due.is(call + ": below", x.part(1), below);
    }

    private static void calms() {
        WindLawyer x = Due.told("island;winds 9 0 6 1 20 0;user 0 2 1;user 0 3 1;hours 1;");
        // From hour 1 on user 0 takes 2 of 5 (user 1 ahead of it 2 of 6), 7 of 20, nothing, and 3 of 9 in hour 8.
        calmsAre(x, 0, 0, 5, 0, 1);
        calmsAre(x, 1, 1, 0, 2, 1);
        calmsAre(x, 1, 1, 3, 7, 5);
        calmsAre(x, 0, 2, 0, 9, 1);
        calmsAre(x, 0, 2, 9, 9, 10);
        calmsAre(x, 0, 8, 0, 12, 1);
        calmsAre(x, 0, 8, 1, 54, 5);
        calmsAre(x, 0, 8, 10, 0, 1);
        calmsAre(x, 0, 7, 5, 9, 2);
        due.is("the hour stays", x.count(2), 1);
        due.bad(x, "calms(-1, 0, 0)", () -> x.calms(-1, 0, 0));
        due.bad(x, "calms(2, 0, 0)", () -> x.calms(2, 0, 0));
        due.bad(x, "calms(0, -1, 0)", () -> x.calms(0, -1, 0));
        due.bad(x, "calms(0, 9, 0)", () -> x.calms(0, 9, 0));
        due.bad(x, "calms(0, 0, -1)", () -> x.calms(0, 0, -1));
        due.bad(x, "calms(0, 0, 11)", () -> x.calms(0, 0, 11));
    }

    private static void years() {
        WindLawyer x = Due.told("island;user 0 2 1;user 4 2 3;");
        due.quiet(x, "years(5, 0)", () -> x.years(5, 0), 0);
        // Seed 0: X is 12345, which is 0 by 65536; then 1406932606: 21468 by 21 left over 6, 1341 odd: from the other side.
        due.quiet(x, "years(0, 1)", () -> x.years(0, 1), 0);
        // Of 6 the mill takes 2, the clipper of 4 takes 1 and 3: rents 6 and 24.
        due.quiet(x, "years(0, 2)", () -> x.years(0, 2), 30);
        // Then X is 654583775: 9988 by 21 left over 13; the mill takes 5, the clipper of 8 takes 1 and 3.
        due.quiet(x, "years(0, 3)", () -> x.years(0, 3), 30 + 15 + 24);
        due.bad(x, "years(-1, 0)", () -> x.years(-1, 0));
        due.bad(x, "years(1000000, 0)", () -> x.years(1000000, 0));
        due.bad(x, "years(0, -1)", () -> x.years(0, -1));
        due.bad(x, "years(0, 61)", () -> x.years(0, 61));
        due.is("years(999999, 60)", x.years(999999, 60) > 0 ? 1 : 0, 1);
        due.is("the hour stays", x.count(2), 0);
    }
}
