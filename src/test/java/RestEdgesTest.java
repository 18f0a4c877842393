import java.math.BigInteger;
import java.util.ArrayList;
import java.util.List;

/** Promises 36 to 41: each sentence that names an edge has a test of its own. RangesTest and RefusalsTest hold the numbers. */
public final class RestEdgesTest {
    private static final Due due = new Due();

    public static void main(String[] args) {
        theFractionAtFirst();
        theFractionOf0();
        theFractionBelow0();
        partBad();
        imageOfANewObject();
        imageIsKeptAnew();
        imagesAreApart();
        imageIsNotChangedByWhatGoesOn();
        imageIsUsedAgain();
        imageKeepsAllButThem();
        imageKeepsWhatMayBeUndone();
        imageKeepsNotTheText();
        imageKeepsNotTheFraction();
        imageKeepsNotStatus();
        imageOfAFullObject();
        fromOfNone();
        fromLeavesTheOtherImage();
        statusOfEach();
        statusOfAnotherWhat();
        statusOfOtherAnswers();
        statusStays();
        countAtFirst();
        countAtMost();
        countBad();
        digestOfANewObject();
        digestOfAFullObject();
        digestWrapsAround();
        digestOfAFractionBelow0();
        due.end();
    }

    private static void theFractionAtFirst() {
        due.sentence("THE FRACTION is 0 by 1 at first");
        WindLawyer x = new WindLawyer();
        due.is("part(0)", x.part(0), 0);
        due.is("part(1)", x.part(1), 1);
        x.user(0, 0, 1);
        x.share(1);
        x.calms(0, 9, 0);
        due.is("part(0) behind refusals", x.part(0), 0);
        due.is("part(1) behind refusals", x.part(1), 1);
    }

    private static void theFractionOf0() {
        due.sentence("THE FRACTION of nothing: lowest terms, 0 by 1");
        WindLawyer x = Due.told("island;winds 9 0;user 0 0 1;");
        x.calms(0, 1, 9);
        due.is("part(1)", x.part(1), 10);
        x.calms(0, 1, 10);
        due.is("part(0)", x.part(0), 0);
        due.is("part(1)", x.part(1), 1);
    }

    private static void theFractionBelow0() {
        due.sentence("THE FRACTION: below above 0, where above is below 0");
        WindLawyer x = Due.told("island;winds 4 0;user 1 1 1;user 5 1 2;user 1 1 4;");
        x.share(0);
        due.is("part(0)", x.part(0), -1);
        due.is("part(1)", x.part(1), 6);
    }

    private static void partBad() {
        due.sentence("Promise 36, above (0), below (1); BAD");
        WindLawyer x = new WindLawyer();
        due.bad(x, "part(2)", () -> x.part(2));
        due.bad(x, "part(-1)", () -> x.part(-1));
    }

    private static void imageOfANewObject() {
        due.sentence("Promise 37, an IMAGE of an island with nothing on it");
        WindLawyer x = new WindLawyer();
        due.quiet(x, "image(0)", () -> x.image(0), 1);
        x.user(0, 0, 1);
        x.hour(5);
        due.is("from(0)", x.from(0), 1);
        due.is("digest", x.digest(), new WindLawyer().digest());
        due.no(x, "undo()", x::undo);
    }

    private static void imageIsKeptAnew() {
        due.sentence("Promise 37, an IMAGE is kept: in place of the one before");
        WindLawyer x = new WindLawyer();
        x.hour(1);
        due.is("image(1)", x.image(1), 1);
        x.hour(1);
        due.is("image(1) again", x.image(1), 1);
        x.hour(1);
        x.from(1);
        due.is("count(2)", x.count(2), 2);
    }

    private static void imagesAreApart() {
        due.sentence("Promise 37, IMAGES 0, 1: each its own");
        WindLawyer x = new WindLawyer();
        x.hour(1);
        x.image(0);
        x.hour(1);
        x.image(1);
        x.hour(1);
        due.is("from(0)", x.from(0), 1);
        due.is("count(2)", x.count(2), 1);
        due.is("from(1)", x.from(1), 1);
        due.is("count(2)", x.count(2), 2);
    }

    private static void imageIsNotChangedByWhatGoesOn() {
        due.sentence("Promise 38, it goes on from an IMAGE, which stays as it was kept");
        WindLawyer x = Twin.full();
        x.image(0);
        long kept = x.digest();
        for (int i = 0; i < 2; i++) {
            x.hears(0);
            x.pays(6);
            x.hour(99);
            x.undo();
            x.wind(7, 0, 1);
            x.forget(0);
            x.forget(1);
            x.forget(2);
            x.reading(0, 0, 0);
            x.note(0, 1, 0, 0, 0);
            x.mark(0, 0, 0, 0);
            x.island();
            x.user(5, 5, 4);
            x.suit(5, 0);
            due.is("from(0)", x.from(0), 1);
            due.is("digest", x.digest(), kept);
        }
    }

    private static void imageIsUsedAgain() {
        due.sentence("Promise 38, it goes on from an IMAGE, which may be gone on from again");
        WindLawyer x = Twin.half();
        x.image(0);
        x.from(0);
        x.from(0);
        due.same("what is left", Twin.answers(x), Twin.answers(imaged(Twin.half())));
    }

    private static WindLawyer imaged(WindLawyer x) {
        x.image(0);
        return x;
    }

    private static void imageKeepsAllButThem() {
        due.sentence("Promise 37, IMAGES keep all but them");
        WindLawyer x = Twin.half();
        long kept = x.digest();
        x.image(1);
        x.from(0);
        x.island();
        due.is("from(1)", x.from(1), 1);
        due.is("digest", x.digest(), kept);
        WindLawyer y = Twin.half();
        y.image(1);
        due.is("from(0), kept before image 1", x.from(0), y.from(0));
        due.is("its digest", x.digest(), y.digest());
    }

    private static void imageKeepsWhatMayBeUndone() {
        due.sentence("Promise 37, what may be undone they keep");
        WindLawyer x = Twin.full();
        due.is("count(8)", x.count(8), 8);
        x.image(0);
        x.island();
        due.no(x, "undo() of an island anew", x::undo);
        x.from(0);
        WindLawyer y = Twin.full();
        for (int i = 0; i < 8; i++) {
            due.is("undo() " + i, x.undo(), y.undo());
            due.is("digest " + i, x.digest(), y.digest());
        }
        due.no(x, "a 9th undo()", x::undo);
    }

    private static void imageKeepsNotTheText() {
        due.sentence("Promise 37, IMAGES keep all but THE TEXT");
        WindLawyer x = new WindLawyer();
        Due.write(x, "island;user 1 2 3;");
        x.image(0);
        Due.write(x, "island;hours 7;");
        x.from(0);
        due.is("count(9)", x.count(9), 15);
        due.is("read()", x.read(), 2);
        due.is("count(2)", x.count(2), 7);
    }

    private static void imageKeepsNotTheFraction() {
        due.sentence("Promise 37, IMAGES keep all but THE FRACTION");
        WindLawyer x = Due.told("island;winds 9 0;user 0 0 1;");
        x.calms(0, 1, 1);
        x.image(0);
        x.calms(0, 1, 9);
        x.from(0);
        due.is("part(0)", x.part(0), 3);
        due.is("part(1)", x.part(1), 10);
    }

    private static void imageKeepsNotStatus() {
        due.sentence("Promise 37, IMAGES keep all but STATUS");
        WindLawyer x = new WindLawyer();
        x.image(0);
        x.hour(0);
        x.undo();
        x.from(0);
        due.is("status(0)", x.status(0), 1);
        due.is("status(1)", x.status(1), 1);
    }

    private static void imageOfAFullObject() {
        due.sentence("Promise 37, an IMAGE of 7 USERS, 5 SUITS, 4 READ, 6 NOTES, 6 MARKS");
        WindLawyer x = Twin.full();
        x.image(1);
        x.island();
        x.from(1);
        int[] counts = {7, 5, 15, Twin.full().count(3), Twin.full().count(4), 4, 6, 6, 8, 150};
        for (int what = 0; what < 10; what++) {
            due.is("count(" + what + ")", x.count(what), counts[what]);
        }
        due.full(x, "an 8th user", () -> x.user(0, 0, 1));
        due.full(x, "a 6th suit", () -> x.suit(0, 0));
    }

    private static void fromOfNone() {
        due.sentence("Promise 38, NO: none was kept");
        WindLawyer x = new WindLawyer();
        due.no(x, "from(0)", () -> x.from(0));
        due.no(x, "from(1)", () -> x.from(1));
        x.image(1);
        due.no(x, "from(0), 1 alone was kept", () -> x.from(0));
        due.is("from(1)", x.from(1), 1);
        due.bad(x, "from(2)", () -> x.from(2));
    }

    private static void fromLeavesTheOtherImage() {
        due.sentence("Promise 38, it goes on from an IMAGE: IMAGES stay");
        WindLawyer x = new WindLawyer();
        x.hour(1);
        x.image(0);
        x.island();
        x.image(1);
        x.from(0);
        x.from(1);
        due.is("count(2)", x.count(2), 0);
        x.from(0);
        due.is("count(2)", x.count(2), 1);
    }

    private static void statusOfEach() {
        due.sentence("Promise 39, BAD (0), NO (1), FULL (2)");
        WindLawyer x = Twin.full();
        for (int n = 1; n <= 3; n++) {
            x.hour(0);
            due.is("status(0)", x.status(0), n);
        }
        for (int n = 1; n <= 2; n++) {
            x.hears(4);
            due.is("status(1)", x.status(1), n);
        }
        x.suit(0, 0);
        due.is("status(2)", x.status(2), 1);
        due.is("status(0)", x.status(0), 3);
        due.is("status(1)", x.status(1), 2);
    }

    private static void statusOfAnotherWhat() {
        due.sentence("Promise 39, -1: another what (counts as BAD)");
        WindLawyer x = new WindLawyer();
        int[] others = {3, -1, Integer.MIN_VALUE, Integer.MAX_VALUE};
        for (int i = 0; i < others.length; i++) {
            due.is("status(" + others[i] + ")", x.status(others[i]), -1);
            due.is("status(0)", x.status(0), i + 1);
            due.is("status(1)", x.status(1), 0);
            due.is("status(2)", x.status(2), 0);
        }
    }

    private static void statusOfOtherAnswers() {
        due.sentence("Promise 39, where others are told they count as these: court's -10 as BAD");
        WindLawyer x = new WindLawyer();
        due.is("court(-2)", x.court(-2), -10);
        due.is("status(0)", x.status(0), 1);
        due.sentence("Promise 39, an answer that is told without a reason is none that was refused");
        due.is("court(0)", x.court(0), -5);
        due.is("read()", x.read(), -10);
        due.is("status(0)", x.status(0), 1);
        due.is("status(1)", x.status(1), 0);
        due.is("status(2)", x.status(2), 0);
    }

    private static void statusStays() {
        due.sentence("Promise 39, STATUS stays behind an island, an ISLAND read, UNDO");
        WindLawyer x = new WindLawyer();
        x.hour(0);
        x.hour(1);
        x.undo();
        x.island();
        Due.write(x, "island;");
        x.read();
        due.is("status(0)", x.status(0), 1);
        due.is("status(1)", x.status(1), 0);
        due.is("status(2)", x.status(2), 0);
    }

    private static void countAtFirst() {
        due.sentence("Promise 40, how many: none at first");
        WindLawyer x = new WindLawyer();
        for (int what = 0; what < 10; what++) {
            int w = what;
            due.quiet(x, "count(" + what + ")", () -> x.count(w), 0);
        }
    }

    private static void countAtMost() {
        due.sentence("Promise 40, 0 USERS, 1 SUITS, 2 the HOUR, 5 READ, 6 NOTES, 7 MARKS, 8 undone, 9 bytes: the most");
        WindLawyer x = Twin.full();
        int[] most = {7, 5, 15, -1, -1, 4, 6, 6, 8, 150};
        for (int what = 0; what < 10; what++) {
            if (most[what] >= 0) {
                due.is("count(" + what + ")", x.count(what), most[what]);
            }
        }
        due.sentence("Promise 40, 3 DUES of all");
        int dues = 0;
        for (int u = 0; u < 7; u++) {
            dues += x.of(u, 3);
        }
        due.is("count(3)", x.count(3), dues);
        due.sentence("Promise 40, 4 what is WON");
        int won = x.count(4);
        int more = x.hears(3);
        due.is("count(4)", x.count(4), won + more);
    }

    private static void countBad() {
        due.sentence("Promise 40, BAD: ahead of 0, behind 9");
        WindLawyer x = Twin.full();
        due.bad(x, "count(-1)", () -> x.count(-1));
        due.bad(x, "count(10)", () -> x.count(10));
    }

    private static long digestOf(long... values) {
        long h = 1493;
        for (long v : values) {
            h = 31 * h + v;
        }
        return h;
    }

    private static void digestOfANewObject() {
        due.sentence("Promise 41, of a new object: ten counts, eight WINDS, THE FRACTION");
        WindLawyer x = new WindLawyer();
        long[] values = new long[10 + 16 + 2];
        values[27] = 1;
        due.quiet(x, "digest()", x::digest, digestOf(values));
    }

    /** Told of the object by its other calls, but for what was written into it: READ, NOTES, MARKS. */
    private static void digestOfAFullObject() {
        due.sentence("Promise 41, of all that an object can hold");
        WindLawyer x = Twin.full();
        List<Long> values = new ArrayList<>();
        for (int what = 0; what < 10; what++) {
            values.add((long) x.count(what));
        }
        int[] winds = {20, 1, 19, 0, 18, 1, 17, 0, 16, 1, 15, 0, 14, 1, 13, 0};
        for (int wind : winds) {
            values.add((long) wind);
        }
        for (int u = 0; u < 7; u++) {
            for (int what = 0; what < 4; what++) {
                values.add((long) x.of(u, what));
            }
        }
        for (int s = 0; s < 5; s++) {
            for (int what = 0; what < 4; what++) {
                values.add((long) x.about(s, what));
            }
        }
        for (int i = 0; i < 4; i++) {
            List.of(i, i, 12 + i).forEach(v -> values.add((long) v));
        }
        for (int i = 0; i < 6; i++) {
            List.of(i, 1, 20, 7 - i, 21).forEach(v -> values.add((long) v));
        }
        for (int i = 0; i < 6; i++) {
            List.of(i % 5, 10 + i, 2, 12 + i).forEach(v -> values.add((long) v));
        }
        values.add(x.part(0));
        values.add(x.part(1));
        due.quiet(x, "digest()", x::digest, digestOf(values.stream().mapToLong(v -> v).toArray()));
    }

    private static void digestWrapsAround() {
        due.sentence("Promise 41, h = 31 h + v, which wraps around as a long");
        WindLawyer x = new WindLawyer();
        // By 13 values 1493 times 31 each is beyond 2 to the power of 63.
        BigInteger h = BigInteger.valueOf(1493);
        for (int i = 0; i < 28; i++) {
            h = h.multiply(BigInteger.valueOf(31)).add(BigInteger.valueOf(i == 27 ? 1 : 0));
        }
        due.is("beyond a long", h.bitLength() > 63 ? 1 : 0, 1);
        due.is("digest()", x.digest(), h.longValue());
    }

    private static void digestOfAFractionBelow0() {
        due.sentence("Promise 41, THE FRACTION, which may be below 0, comes last");
        WindLawyer x = Due.told("island;winds 4 0;user 1 1 1;user 5 1 2;user 1 1 4;");
        long at = x.digest();
        x.share(0);
        due.is("digest() by the fraction before", x.digest() - at, 31L * (-1 - 0) + (6 - 1));
    }
}
