import java.math.BigInteger;
import java.util.ArrayDeque;
import java.util.ArrayList;
import java.util.List;
import java.util.TreeMap;
import java.util.regex.Matcher;
import java.util.regex.Pattern;

/**
 * The document told a second time, without a care for speed or for objects: kinds are a tree, sets and
 * orders are listed, means are summed over all that may be. RandomRunsTest holds the class against it.
 */
final class Model {
    record User(int kind, int cell, int height) { }

    record Suit(int kind, int user, int hour) { }

    /** What UNDO gives back. */
    record Past(List<Integer> dues, int won, List<Suit> suits, List<Boolean> heard, int hour) { }

    static final class World {
        int[] strength = new int[8];
        int[] side = new int[8];
        List<User> users = new ArrayList<>();
        List<Integer> dues = new ArrayList<>();
        List<Suit> suits = new ArrayList<>();
        List<Boolean> heard = new ArrayList<>();
        List<List<Integer>> reads = new ArrayList<>();
        List<List<Integer>> notes = new ArrayList<>();
        List<List<Integer>> marks = new ArrayList<>();
        ArrayDeque<Past> past = new ArrayDeque<>();
        int hour;
        int won;

        World copy() {
            World w = new World();
            w.strength = strength.clone();
            w.side = side.clone();
            w.users.addAll(users);
            w.dues.addAll(dues);
            w.suits.addAll(suits);
            w.heard.addAll(heard);
            w.reads.addAll(reads);
            w.notes.addAll(notes);
            w.marks.addAll(marks);
            w.past.addAll(past);
            w.hour = hour;
            w.won = won;
            return w;
        }
    }

    World w = new World();
    final World[] images = new World[2];
    StringBuilder text = new StringBuilder();
    BigInteger above = BigInteger.ZERO;
    BigInteger below = BigInteger.ONE;
    final int[] refused = new int[3];

    private int bad() {
        refused[0]++;
        return -2;
    }

    private int no() {
        refused[1]++;
        return -3;
    }

    private int full() {
        refused[2]++;
        return -4;
    }

    private static boolean in(int x, int a, int b) {
        return a <= x && x <= b;
    }

    private boolean user(int u) {
        return in(u, 0, w.users.size() - 1);
    }

    private boolean suit(int s) {
        return in(s, 0, w.suits.size() - 1);
    }

    static int takes(int kind, int h, int s) {
        return switch (kind) {
            case 0 -> (int) Math.ceil(s / 3.0);
            case 1 -> (int) Math.floor(takes(0, h, s) / 2.0);
            case 2 -> Math.min(h, takes(0, h, s));
            case 3 -> s >= 1 ? 1 : 0;
            case 4 -> Math.min(s, h + takes(1, h, s));
            default -> Math.min(s, 2 * takes(2, h, s));
        };
    }

    static int rent(int kind, int t) {
        return switch (kind) {
            case 0 -> 3 * t;
            case 1 -> rent(0, t);
            case 2 -> t >= 1 ? rent(0, t) + 1 : rent(0, t);
            case 3 -> 0;
            case 4 -> 2 * rent(1, t);
            default -> rent(2, t);
        };
    }

    static int awarded(int kind, int d, int a) {
        return switch (kind) {
            case 0 -> d;
            case 1 -> 2 * awarded(0, d, a);
            case 2 -> awarded(0, d, a) + a;
            case 3 -> (int) Math.ceil(awarded(0, d, a) / 2.0);
            case 4 -> a < 8 ? 0 : 2 * awarded(2, d, a);
            default -> Math.min(40, awarded(1, d, a));
        };
    }

    /** Rows: what each user took; what was ahead of each cell; what was behind each. */
    static int[][] blow(List<User> users, List<Integer> standing, int strength, int side) {
        int[][] all = {new int[users.size()], new int[12], new int[12]};
        int s = strength;
        for (int step = 0; step < 12; step++) {
            int c = side == 1 ? 11 - step : step;
            if (step > 0) {
                s = Math.min(strength, s + 1);
            }
            all[1][c] = s;
            for (int u : standing) {
                User x = users.get(u);
                if (x.cell() == c) {
                    all[0][u] = takes(x.kind(), x.height(), s);
                    s -= all[0][u];
                }
            }
            all[2][c] = s;
        }
        return all;
    }

    static List<Integer> upTo(int n) {
        List<Integer> list = new ArrayList<>();
        for (int i = 0; i < n; i++) {
            list.add(i);
        }
        return list;
    }

    private int[][] blow(int hour) {
        return blow(w.users, upTo(w.users.size()), w.strength[hour % 8], w.side[hour % 8]);
    }

    /** All that those standing take in a day; the first n of them alone are counted. */
    int day(List<User> users, List<Integer> standing, int n) {
        int sum = 0;
        for (int h = 0; h < 8; h++) {
            int[] took = blow(users, standing, w.strength[h], w.side[h])[0];
            for (int u = 0; u < n; u++) {
                sum += took[u];
            }
        }
        return sum;
    }

    private void remember() {
        w.past.addLast(new Past(List.copyOf(w.dues), w.won, List.copyOf(w.suits), List.copyOf(w.heard), w.hour));
        if (w.past.size() > 8) {
            w.past.removeFirst();
        }
    }

    int island() {
        int n = w.users.size();
        w = new World();
        return n;
    }

    int wind(int h, int strength, int side) {
        if (!in(h, 0, 7) || !in(strength, 0, 20) || !in(side, 0, 1)) {
            return bad();
        }
        int was = 10 * w.strength[h] + w.side[h];
        w.strength[h] = strength;
        w.side[h] = side;
        w.past.clear();
        return was;
    }

    int user(int kind, int cell, int height) {
        if (!in(kind, 0, 5) || !in(cell, 0, 11) || !in(height, 1, 4)) {
            return bad();
        }
        if (w.users.size() == 7) {
            return full();
        }
        w.users.add(new User(kind, cell, height));
        w.dues.add(0);
        w.past.clear();
        return w.users.size() - 1;
    }

    int type(int c) {
        if (!in(c, 0, 127)) {
            return bad();
        }
        if (text.length() == 150) {
            return full();
        }
        text.append((char) c);
        return text.length();
    }

    int clear() {
        int n = text.length();
        text = new StringBuilder();
        return n;
    }

    private record Token(String text, int place) {
        int number(int least, int most) {
            if (!text.matches("[0-9]{1,2}") || !in(Integer.parseInt(text), least, most)) {
                throw new IllegalArgumentException("" + place);
            }
            return Integer.parseInt(text);
        }

        void is(String wanted) {
            if (!text.equals(wanted)) {
                throw new IllegalArgumentException("" + place);
            }
        }
    }

    int read() {
        List<Token> tokens = new ArrayList<>();
        Matcher m = Pattern.compile("[a-z]+|[0-9]+|[^ ]", Pattern.DOTALL).matcher(text);
        while (m.find()) {
            tokens.add(new Token(m.group(), m.start()));
        }
        World before = w;
        w = new World();
        try {
            int items = items(tokens);
            w.past.clear();
            return items;
        } catch (IllegalArgumentException fault) {
            w = before;
            return -10 - Integer.parseInt(fault.getMessage());
        }
    }

    private int items(List<Token> tokens) {
        Token end = new Token("", text.length());
        for (int i = 0; i < 5; i++) {
            tokens.add(end);
        }
        tokens.get(0).is("island");
        tokens.get(1).is(";");
        int at = 2;
        int items = 1;
        while (tokens.get(at) != end) {
            Token word = tokens.get(at++);
            if (word.text().equals("winds")) {
                int h = 0;
                do {
                    if (h == 8) {
                        tokens.get(at).is(";");
                    }
                    int s = tokens.get(at++).number(0, 20);
                    int side = tokens.get(at++).number(0, 1);
                    w.strength[h] = s;
                    w.side[h] = side;
                    h++;
                } while (!tokens.get(at).text().equals(";"));
            } else if (word.text().equals("user") && w.users.size() < 7) {
                int kind = tokens.get(at++).number(0, 5);
                int cell = tokens.get(at++).number(0, 11);
                int height = tokens.get(at++).number(1, 4);
                user(kind, cell, height);
            } else if (word.text().equals("suit") && w.suits.size() < 5) {
                int kind = tokens.get(at++).number(0, 5);
                int u = tokens.get(at++).number(0, w.users.size() - 1);
                suit(kind, u);
            } else if (word.text().equals("hours")) {
                hour(tokens.get(at++).number(1, 99));
            } else {
                word.is("nothing");
            }
            tokens.get(at++).is(";");
            items++;
        }
        return items;
    }

    int hour(int n) {
        if (!in(n, 1, 99)) {
            return bad();
        }
        remember();
        int rents = 0;
        for (int i = 0; i < n; i++) {
            if (w.hour < 9999) {
                int[] took = blow(w.hour)[0];
                for (int u = 0; u < took.length; u++) {
                    int r = rent(w.users.get(u).kind(), took[u]);
                    w.dues.set(u, w.dues.get(u) + r);
                    rents += r;
                }
                w.hour++;
            }
        }
        return rents;
    }

    int suit(int kind, int u) {
        if (!in(kind, 0, 5) || !user(u)) {
            return bad();
        }
        if (w.suits.size() == 5) {
            return full();
        }
        remember();
        w.suits.add(new Suit(kind, u, w.hour));
        w.heard.add(false);
        return w.suits.size() - 1;
    }

    int hears(int s) {
        if (!suit(s)) {
            return bad();
        }
        if (w.heard.get(s)) {
            return no();
        }
        int won = award(s);
        remember();
        w.won += won;
        w.dues.set(w.suits.get(s).user(), 0);
        w.heard.set(s, true);
        return won;
    }

    int pays(int u) {
        if (!user(u)) {
            return bad();
        }
        remember();
        return w.dues.set(u, 0);
    }

    int undo() {
        if (w.past.isEmpty()) {
            return no();
        }
        Past p = w.past.removeLast();
        w.dues = new ArrayList<>(p.dues());
        w.won = p.won();
        w.suits = new ArrayList<>(p.suits());
        w.heard = new ArrayList<>(p.heard());
        w.hour = p.hour();
        return w.hour;
    }

    int of(int u, int what) {
        if (!user(u) || !in(what, 0, 3)) {
            return bad();
        }
        User x = w.users.get(u);
        return List.of(x.kind(), x.cell(), x.height(), w.dues.get(u)).get(what);
    }

    int about(int s, int what) {
        if (!suit(s) || !in(what, 0, 3)) {
            return bad();
        }
        Suit x = w.suits.get(s);
        return List.of(x.kind(), x.user(), x.hour(), w.heard.get(s) ? 1 : 0).get(what);
    }

    int blows(int c, int h, int what) {
        return in(c, 0, 11) && in(h, 0, 7) && in(what, 0, 1) ? blow(h)[1 + what][c] : bad();
    }

    int takes(int u, int h) {
        return user(u) && in(h, 0, 7) ? blow(h)[0][u] : bad();
    }

    int then(int u, int m) {
        if (!user(u) || !in(m, 0, 99)) {
            return bad();
        }
        int dues = w.dues.get(u);
        for (int hour = w.hour; hour < w.hour + m; hour++) {
            dues += rent(w.users.get(u).kind(), blow(hour)[0][u]);
        }
        return dues;
    }

    int calm(int u) {
        if (!user(u)) {
            return bad();
        }
        for (int i = 0; i < 24; i++) {
            if (blow(w.hour + i)[0][u] == 0) {
                return i;
            }
        }
        return -1;
    }

    int place(int kind, int height, int what) {
        if (!in(kind, 0, 5) || !in(height, 1, 4) || !in(what, 0, 1)) {
            return bad();
        }
        int n = w.users.size();
        if (n == 7) {
            return full();
        }
        TreeMap<Integer, Integer> leastCellByLoss = new TreeMap<>();
        for (int c = 11; c >= 0; c--) {
            leastCellByLoss.put(Math.max(0, loss(kind, height, c)), c);
        }
        return what == 0 ? leastCellByLoss.firstEntry().getValue() : leastCellByLoss.firstKey();
    }

    int loss(int kind, int height, int c) {
        int n = w.users.size();
        List<User> more = new ArrayList<>(w.users);
        more.add(new User(kind, c, height));
        return day(w.users, upTo(n), n) - day(more, upTo(n + 1), n);
    }

    static void orders(List<Integer> begun, List<Integer> left, List<List<Integer>> all) {
        if (left.isEmpty()) {
            all.add(List.copyOf(begun));
        }
        for (int i = 0; i < left.size(); i++) {
            List<Integer> b = new ArrayList<>(begun);
            List<Integer> l = new ArrayList<>(left);
            b.add(l.remove(i));
            orders(b, l, all);
        }
    }

    int share(int u) {
        if (!user(u)) {
            return bad();
        }
        int n = w.users.size();
        List<List<Integer>> all = new ArrayList<>();
        orders(List.of(), upTo(n), all);
        TreeMap<String, Integer> known = new TreeMap<>();
        long sum = 0;
        for (List<Integer> order : all) {
            List<Integer> without = new ArrayList<>(order.subList(0, order.indexOf(u)));
            List<Integer> with = new ArrayList<>(without);
            with.add(u);
            without.sort(null);
            with.sort(null);
            sum += known.computeIfAbsent("" + with, k -> day(w.users, with, n));
            sum -= known.computeIfAbsent("" + without, k -> day(w.users, without, n));
        }
        fraction(BigInteger.valueOf(sum), BigInteger.valueOf(all.size()));
        return 1;
    }

    private void fraction(BigInteger top, BigInteger bottom) {
        BigInteger g = top.gcd(bottom);
        above = top.divide(g);
        below = bottom.divide(g);
    }

    int award(int s) {
        return suit(s) ? awardAt(s, w.hour, w.dues) : bad();
    }

    private int awardAt(int s, int hour, List<Integer> dues) {
        Suit x = w.suits.get(s);
        return w.heard.get(s) ? 0 : awarded(x.kind(), dues.get(x.user()), hour - x.hour());
    }

    int court(int i) {
        if (i < -1) {
            refused[0]++;
            return -10;
        }
        List<Integer> waiting = upTo(w.suits.size());
        waiting.removeIf(s -> w.heard.get(s));
        List<List<Integer>> all = new ArrayList<>();
        orders(List.of(), waiting, all);
        TreeMap<Integer, List<Integer>> firstByWon = new TreeMap<>();
        for (List<Integer> order : all) {
            List<Integer> dues = new ArrayList<>(w.dues);
            int won = 0;
            int hour = w.hour;
            for (int s : order) {
                won += awardAt(s, hour++, dues);
                dues.set(w.suits.get(s).user(), 0);
            }
            firstByWon.putIfAbsent(won, order);
        }
        if (i == -1) {
            return firstByWon.lastKey();
        }
        return i < waiting.size() ? firstByWon.lastEntry().getValue().get(i) : -5;
    }

    int settle() {
        int bits = 0;
        for (int s = 0; s < w.suits.size(); s++) {
            bits += !w.heard.get(s) && award(s) >= 10 ? 1 << s : 0;
        }
        return bits;
    }

    private int row(List<List<Integer>> rows, int limit, Integer... row) {
        if (rows.size() == limit) {
            return full();
        }
        rows.add(List.of(row));
        return rows.size();
    }

    int reading(int h, int c, int x) {
        return in(h, 0, 7) && in(c, 0, 11) && in(x, 0, 20) ? row(w.reads, 4, h, c, x) : bad();
    }

    int stood(int what) {
        if (!in(what, 0, 2)) {
            return bad();
        }
        List<List<Integer>> sets = new ArrayList<>();
        for (int bits = 0; bits < 1 << w.users.size(); bits++) {
            int set = bits;
            List<Integer> standing = upTo(w.users.size());
            standing.removeIf(u -> (set & 1 << u) == 0);
            boolean fits = true;
            for (List<Integer> r : w.reads) {
                int h = r.get(0);
                fits &= blow(w.users, standing, w.strength[h], w.side[h])[2][r.get(1)] == r.get(2);
            }
            if (fits) {
                sets.add(standing);
            }
        }
        if (what == 0) {
            return sets.size();
        }
        if (what == 1 && sets.isEmpty()) {
            return -1;
        }
        int bits = 0;
        for (int u = 0; u < w.users.size(); u++) {
            int user = u;
            boolean told = what == 1 ? sets.stream().allMatch(s -> s.contains(user)) : sets.stream().anyMatch(s -> s.contains(user));
            bits += told ? 1 << u : 0;
        }
        return bits;
    }

    int note(int u, int h, int s, int t, int r) {
        boolean told = user(u) && in(h, 1, 4) && in(s, 0, 20) && in(t, 0, 20) && in(r, 0, 200);
        return told ? row(w.notes, 6, u, h, s, t, r) : bad();
    }

    int mark(int s, int d, int a, int x) {
        return suit(s) && in(d, 0, 200) && in(a, 0, 99) && in(x, 0, 999) ? row(w.marks, 6, s, d, a, x) : bad();
    }

    int forget(int what) {
        if (!in(what, 0, 2)) {
            return bad();
        }
        List<List<Integer>> rows = List.of(w.reads, w.notes, w.marks).get(what);
        int n = rows.size();
        rows.clear();
        return n;
    }

    private List<Integer> userKinds(int u) {
        List<Integer> kinds = upTo(6);
        for (List<Integer> n : w.notes) {
            if (n.get(0) == u) {
                kinds.removeIf(k -> takes(k, n.get(1), n.get(2)) != n.get(3) || rent(k, n.get(3)) != n.get(4));
            }
        }
        return kinds;
    }

    private List<Integer> suitKinds(int s) {
        List<Integer> kinds = upTo(6);
        for (List<Integer> m : w.marks) {
            if (m.get(0) == s) {
                kinds.removeIf(k -> awarded(k, m.get(1), m.get(2)) != m.get(3));
            }
        }
        return kinds;
    }

    private static int bits(List<Integer> kinds) {
        return kinds.stream().mapToInt(k -> 1 << k).sum();
    }

    private static int mostAlike(List<String> answers) {
        TreeMap<String, Integer> counts = new TreeMap<>();
        answers.forEach(a -> counts.merge(a, 1, Integer::sum));
        return counts.values().stream().max(Integer::compare).orElse(0);
    }

    int is(int u) {
        return user(u) ? bits(userKinds(u)) : bad();
    }

    int look(int u) {
        if (!user(u)) {
            return bad();
        }
        TreeMap<Integer, Integer> leastByAlike = new TreeMap<>();
        int h = w.users.get(u).height();
        for (int s = 20; s >= 0; s--) {
            int wind = s;
            leastByAlike.put(mostAlike(userKinds(u).stream()
                    .map(k -> takes(k, h, wind) + " " + rent(k, takes(k, h, wind))).toList()), s);
        }
        return userKinds(u).isEmpty() ? -1 : leastByAlike.firstEntry().getValue();
    }

    int kinds(int s) {
        return suit(s) ? bits(suitKinds(s)) : bad();
    }

    int tries(int s) {
        if (!suit(s)) {
            return bad();
        }
        TreeMap<Integer, Integer> leastByAlike = new TreeMap<>();
        for (int d = 30; d >= 0; d--) {
            for (int a = 9; a >= 0; a--) {
                int dues = d;
                int age = a;
                leastByAlike.put(mostAlike(suitKinds(s).stream().map(k -> "" + awarded(k, dues, age)).toList()), 10 * d + a);
            }
        }
        return suitKinds(s).isEmpty() ? -1 : leastByAlike.firstEntry().getValue();
    }

    int parties(int s) {
        if (!suit(s)) {
            return bad();
        }
        if (w.heard.get(s)) {
            return no();
        }
        int d = w.dues.get(w.suits.get(s).user());
        int a = award(s);
        int bits = 0;
        bits += 0 >= a - 5 && 0 >= -d ? 1 : 0;
        bits += a - 5 >= 0 && -a >= -d ? 2 : 0;
        bits += d >= d - 5 && -d >= 0 ? 4 : 0;
        bits += d - 5 >= d && -d >= -a ? 8 : 0;
        return bits;
    }

    int calms(int u, int n, int c) {
        if (!user(u) || !in(n, 0, 8) || !in(c, 0, 10)) {
            return bad();
        }
        BigInteger sum = BigInteger.ZERO;
        for (int set = 0; set < 1 << n; set++) {
            BigInteger weight = BigInteger.ONE;
            int taken = 0;
            for (int i = 0; i < n; i++) {
                boolean still = (set >> i & 1) == 1;
                weight = weight.multiply(BigInteger.valueOf(still ? c : 10 - c));
                taken += still ? 0 : blow(w.hour + i)[0][u];
            }
            sum = sum.add(weight.multiply(BigInteger.valueOf(taken)));
        }
        fraction(sum, BigInteger.TEN.pow(n));
        return 1;
    }

    int years(int seed, int n) {
        if (!in(seed, 0, 999999) || !in(n, 0, 60)) {
            return bad();
        }
        BigInteger x = BigInteger.valueOf(seed);
        int rents = 0;
        for (int i = 0; i < n; i++) {
            x = x.multiply(BigInteger.valueOf(1103515245)).add(BigInteger.valueOf(12345)).mod(BigInteger.ONE.shiftLeft(31));
            int[] took = blow(w.users, upTo(w.users.size()), x.intValue() / 65536 % 21, x.intValue() / 1048576 % 2)[0];
            for (int u = 0; u < took.length; u++) {
                rents += rent(w.users.get(u).kind(), took[u]);
            }
        }
        return rents;
    }

    long part(int what) {
        return in(what, 0, 1) ? (what == 0 ? above : below).longValueExact() : bad();
    }

    int image(int i) {
        if (!in(i, 0, 1)) {
            return bad();
        }
        images[i] = w.copy();
        return 1;
    }

    int from(int i) {
        if (!in(i, 0, 1)) {
            return bad();
        }
        if (images[i] == null) {
            return no();
        }
        w = images[i].copy();
        return 1;
    }

    int status(int what) {
        if (!in(what, 0, 2)) {
            refused[0]++;
            return -1;
        }
        return refused[what];
    }

    private List<Integer> counts() {
        return List.of(w.users.size(), w.suits.size(), w.hour, w.dues.stream().mapToInt(d -> d).sum(), w.won,
                w.reads.size(), w.notes.size(), w.marks.size(), w.past.size(), text.length());
    }

    int count(int what) {
        return in(what, 0, 9) ? counts().get(what) : bad();
    }

    long digest() {
        List<Long> all = new ArrayList<>();
        counts().forEach(v -> all.add((long) v));
        for (int h = 0; h < 8; h++) {
            all.add((long) w.strength[h]);
            all.add((long) w.side[h]);
        }
        for (int u = 0; u < w.users.size(); u++) {
            for (int what = 0; what < 4; what++) {
                all.add((long) of(u, what));
            }
        }
        for (int s = 0; s < w.suits.size(); s++) {
            for (int what = 0; what < 4; what++) {
                all.add((long) about(s, what));
            }
        }
        for (List<List<Integer>> rows : List.of(w.reads, w.notes, w.marks)) {
            rows.forEach(row -> row.forEach(v -> all.add((long) v)));
        }
        all.add(above.longValueExact());
        all.add(below.longValueExact());
        long h = 1493;
        for (long v : all) {
            h = 31 * h + v;
        }
        return h;
    }
}
