/** Promises 36 to 41: part, image, from, status, count, digest. */
public final class RestTest {
    private static final Due due = new Due();

    public static void main(String[] args) {
        part();
        images();
        imagesKeepWhatMayBeUndone();
        imagesKeepNotOthers();
        status();
        count();
        digest();
        due.end();
    }

    private static void part() {
        WindLawyer x = Due.told("island;winds 9 0;user 0 2 1;");
        due.is("part(0) at first", x.part(0), 0);
        due.is("part(1) at first", x.part(1), 1);
        x.calms(0, 1, 4);
        due.quiet(x, "part(0)", () -> x.part(0), 9);
        due.quiet(x, "part(1)", () -> x.part(1), 5);
        due.bad(x, "part(-1)", () -> x.part(-1));
        due.bad(x, "part(2)", () -> x.part(2));
        x.calms(0, 9, 4);
        x.share(5);
        due.is("refused calls leave the fraction", x.part(0), 9);
    }

    private static void images() {
        WindLawyer x = Due.told("island;winds 9 0;user 0 2 1;hours 1;suit 0 0;");
        x.reading(0, 0, 1);
        x.note(0, 1, 1, 1, 1);
        x.mark(0, 1, 1, 1);
        long kept = x.digest();
        due.bad(x, "image(-1)", () -> x.image(-1));
        due.bad(x, "image(2)", () -> x.image(2));
        due.no(x, "from(0)", () -> x.from(0));
        due.quiet(x, "image(0)", () -> x.image(0), 1);
        due.no(x, "from(1)", () -> x.from(1));
        x.hour(9);
        x.hears(0);
        x.user(1, 1, 1);
        x.wind(0, 1, 1);
        x.forget(0);
        x.forget(1);
        x.forget(2);
        x.suit(1, 1);
        x.reading(5, 5, 5);
        x.image(1);
        long other = x.digest();
        due.is("from(0)", x.from(0), 1);
        due.is("digest of image 0", x.digest(), kept);
        due.is("heard", x.about(0, 3), 0);
        x.pays(0);
        due.is("from(1)", x.from(1), 1);
        due.is("digest of image 1", x.digest(), other);
        due.is("from(0) again", x.from(0), 1);
        due.is("digest of image 0 again", x.digest(), kept);
        x.island();
        x.image(0);
        due.is("from(1) again", x.from(1), 1);
        due.is("from(0), kept anew", x.from(0), 1);
        due.is("count(0)", x.count(0), 0);
        due.bad(x, "from(-1)", () -> x.from(-1));
        due.bad(x, "from(2)", () -> x.from(2));
    }

    private static void imagesKeepWhatMayBeUndone() {
        WindLawyer x = Due.told("island;winds 9 0;user 0 2 1;");
        for (int n = 1; n <= 9; n++) {
            x.hour(n);
        }
        x.image(0);
        x.wind(0, 0, 0);
        due.no(x, "undo behind a wind", x::undo);
        x.from(0);
        due.is("count(8)", x.count(8), 8);
        due.is("undo", x.undo(), 36);
        due.is("undo", x.undo(), 28);
        x.hour(50);
        x.from(0);
        due.is("undo of the image again", x.undo(), 36);
        x.image(1);
        x.from(1);
        due.is("undo of the other image", x.undo(), 28);
    }

    private static void imagesKeepNotOthers() {
        WindLawyer x = Due.told("island;winds 9 0;user 0 2 1;");
        x.type(65);
        x.image(0);
        x.type(66);
        x.calms(0, 1, 0);
        x.type(-1);
        x.from(1);
        x.from(0);
        due.is("the text stays", x.count(9), 2);
        due.is("the fraction stays", x.part(0), 3);
        due.is("BAD stays", x.status(0), 1);
        due.is("NO stays", x.status(1), 1);
    }

    private static void status() {
        WindLawyer x = new WindLawyer();
        for (int i = 0; i < 7; i++) {
            x.user(0, 0, 1);
        }
        x.wind(8, 0, 0);
        x.undo();
        x.user(0, 0, 1);
        x.place(0, 1, 0);
        due.is("status(0)", x.status(0), 1);
        due.is("status(1)", x.status(1), 1);
        due.is("status(2)", x.status(2), 2);
        due.is("status(3)", x.status(3), -1);
        due.is("another what counts as BAD", x.status(0), 2);
        due.is("status(-1)", x.status(-1), -1);
        due.is("status(0)", x.status(0), 3);
        x.court(-2);
        due.is("court(-2) counts as BAD", x.status(0), 4);
        x.court(0);
        x.read();
        x.calm(0);
        due.is("-5, a fault, none are no refusals", x.status(0), 4);
        due.is("nor NO", x.status(1), 1);
        due.is("nor FULL", x.status(2), 2);
        x.island();
        due.is("an island anew leaves it", x.status(2), 2);
    }

    private static void count() {
        WindLawyer x = Due.told("island;winds 9 0;user 0 2 1;user 2 11 1;user 3 0 1;");
        x.hour(1);
        x.suit(0, 0);
        x.suit(0, 0);
        x.hears(0);
        x.hour(8);
        x.reading(0, 0, 0);
        for (int i = 0; i < 2; i++) {
            x.note(0, 1, 1, 1, 1);
        }
        for (int i = 0; i < 3; i++) {
            x.mark(0, 1, 1, 1);
        }
        x.type(1);
        int[] counts = {3, 2, 9, 9 + 4 + 4, 9, 1, 2, 3, 5, 1};
        for (int what = 0; what < 10; what++) {
            int w = what;
            due.quiet(x, "count(" + what + ")", () -> x.count(w), counts[what]);
        }
        due.bad(x, "count(-1)", () -> x.count(-1));
        due.bad(x, "count(10)", () -> x.count(10));
    }

    private static long digestOf(long... values) {
        long h = 1493;
        for (long v : values) {
            h = 31 * h + v;
        }
        return h;
    }

    private static void digest() {
        WindLawyer empty = new WindLawyer();
        due.quiet(empty, "digest of a new object",
                empty::digest, digestOf(0, 0, 0, 0, 0, 0, 0, 0, 0, 0, 0, 0, 0, 0, 0, 0, 0, 0, 0, 0, 0, 0, 0, 0, 0, 0, 0, 1));
        WindLawyer x = Due.told("island;winds 9 0 0 1 0 0 0 0 0 0 0 0 0 0 6 1;user 0 2 1;user 4 3 2;suit 5 1;");
        x.hour(1);
        x.suit(3, 0);
        x.hears(1);
        x.reading(7, 11, 20);
        x.note(1, 4, 3, 2, 1);
        x.mark(1, 200, 99, 999);
        x.mark(0, 4, 3, 2);
        x.calms(0, 8, 1);
        x.type(9);
        // Of 9 the mill takes 3, the clipper of 7 takes 1 and 2. The mill takes 2 of 3 in hour 7, 3 in hour 8.
        due.quiet(x, "digest", x::digest, digestOf(2, 2, 1, 18, 5, 1, 1, 2, 3, 1,
                9, 0, 0, 1, 0, 0, 0, 0, 0, 0, 0, 0, 0, 0, 6, 1,
                0, 2, 1, 0, 4, 3, 2, 18,
                5, 1, 0, 0, 3, 0, 1, 1,
                7, 11, 20,
                1, 4, 3, 2, 1,
                1, 200, 99, 999, 0, 4, 3, 2,
                9, 2));
    }
}
