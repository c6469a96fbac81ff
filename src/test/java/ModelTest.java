import java.util.NoSuchElementException;
import java.util.Random;

/** Runs of calls, drawn from fixed seeds, on the class and on the slow model: every answer and all that shows. */
public final class ModelTest {
    private static final int RUNS = 1500;
    // Such as make one go another way than the WAY.
    private static final String[] USUAL = {"k*9+1", "9*k+l", "(k>1)*50+2", "l", "61-l", "m-l+1", "o*20+1", "20-o*19",
        "1+(l=1)*30", "w*k+1", "(h>11)*m+1", "5-k"};
    private static int wrong = 0;

    private final Random random;
    private final ClosesAfterSeventh x = new ClosesAfterSeventh();
    private final Model m = new Model();
    private final StringBuilder told = new StringBuilder();
    private final int rooms;

    private ModelTest(long seed) {
        random = new Random(seed);
        rooms = 2 + random.nextInt(random.nextInt(4) == 0 ? 11 : 5);
    }

    public static void main(String[] args) {
        int runs = args.length > 0 ? Integer.parseInt(args[0]) : RUNS;
        long from = args.length > 1 ? Long.parseLong(args[1]) : 1;
        for (long seed = from; seed < from + runs && wrong < 5; seed++) {
            new ModelTest(seed).run(seed);
        }
        System.out.println(wrong == 0 ? "the model answers the same" : wrong + " runs differ from the model");
        if (wrong != 0) {
            System.exit(1);
        }
    }

    private void run(long seed) {
        int before = wrong;
        for (int i = 1 + random.nextInt(4); i > 0; i--) {
            write(houseText(), 76);
            same("house()", x.house(), m.house());
        }
        for (int i = 0; i < 40 && wrong == before; i++) {
            call();
            if (wrong == before) {
                compareAll();
            }
        }
        if (wrong != before) {
            System.out.println("seed " + seed + ":\n" + told);
        }
    }

    private void same(String call, long got, long want) {
        told.append(call).append(" = ").append(got).append('\n');
        if (got != want) {
            wrong++;
            told.append("  the model answers ").append(want).append('\n');
        }
    }

    private void write(String s, int limit) {
        String padded = s.length() > 80 ? s.substring(0, 80) : s;
        if (random.nextInt(40) != 0 && padded.length() > limit) {
            padded = padded.substring(0, limit);
        }
        told.append("text ").append(padded).append('\n');
        x.end(0);
        m.end(0);
        for (int i = 0; i < padded.length(); i += 4) {
            int v = 0;
            for (int j = i; j < i + 4; j++) {
                v = v << 8 | (j < padded.length() ? padded.charAt(j) : 0);
            }
            same("sign", x.sign(v), m.sign(v));
        }
        same("end", x.end(padded.length()) ? 1 : 0, m.end(padded.length()) ? 1 : 0);
    }

    private String houseText() {
        StringBuilder s = new StringBuilder();
        boolean manyPeople = random.nextInt(3) == 0;
        int lines = random.nextInt(14);
        for (int i = 0; i < lines; i++) {
            String line = random.nextInt(manyPeople ? 2 : 4) == 0 ? personText() : doorText();
            if (s.length() + line.length() + 1 > 76 && random.nextInt(10) != 0) {
                break;
            }
            s.append(s.length() == 0 ? "" : ";").append(line);
        }
        return random.nextInt(5) == 0 ? spoilt(s, "dps-><,;@0123456789x") : s.toString();
    }

    private String doorText() {
        int a = random.nextInt(rooms);
        int b = (a + 1 + random.nextInt(rooms - 1)) % rooms;
        int lets = random.nextInt(3) == 0 ? random.nextInt(61) : random.nextInt(4);
        String noon = random.nextInt(4) == 0 ? "@" + random.nextInt(61) : "";
        return "d" + a + (random.nextInt(4) == 0 ? ">" : "-") + b + "," + lets + noon;
    }

    private String personText() {
        String errand = random.nextInt(4) == 0 ? "" : ">" + random.nextInt(rooms) + (random.nextBoolean() ? "<" : "");
        int worth = random.nextInt(3) == 0 ? random.nextInt(100) : random.nextInt(4);
        return (random.nextInt(4) == 0 ? "s" : "p") + random.nextInt(rooms) + "," + worth + errand;
    }

    private String spoilt(CharSequence s, String signs) {
        StringBuilder t = new StringBuilder(s);
        for (int i = 1 + random.nextInt(2); i > 0; i--) {
            int p = random.nextInt(t.length() + 1);
            char c = random.nextInt(20) == 0 ? (char) random.nextInt(256) : signs.charAt(random.nextInt(signs.length()));
            if (random.nextBoolean() || p == t.length()) {
                t.insert(p, c);
            } else if (random.nextBoolean()) {
                t.setCharAt(p, c);
            } else {
                t.deleteCharAt(p);
            }
        }
        return t.toString();
    }

    private String priceText(int deep) {
        switch (random.nextInt(deep > 3 ? 3 : 9)) {
            case 0:
                return String.valueOf(random.nextInt(random.nextBoolean() ? 12 : 1000));
            case 1:
            case 2:
                return String.valueOf("lmohwk".charAt(random.nextInt(6)));
            case 3:
                return "(" + priceText(deep + 1) + ")";
            case 4:
                return "-" + priceText(deep + 1);
            case 5:
                return priceText(deep + 1) + "<>=".charAt(random.nextInt(3)) + priceText(deep + 1);
            default:
                return priceText(deep + 1) + "+-*".charAt(random.nextInt(3)) + priceText(deep + 1);
        }
    }

    // Mostly a number that is right, and sometimes one beside or far off.
    private int upTo(int n) {
        int odd = random.nextInt(30);
        if (odd == 0) {
            return random.nextBoolean() ? -1 : n + random.nextInt(2);
        }
        return odd == 1 ? random.nextInt() : n <= 0 ? 0 : random.nextInt(n);
    }

    private int room() {
        return random.nextInt(8) == 0 ? upTo(12) : upTo(rooms);
    }

    private int person() {
        return upTo(m.people.size());
    }

    private int door() {
        return upTo(m.doors.size());
    }

    private void call() {
        switch (random.nextInt(10)) {
            case 0:
                callHouse();
                break;
            case 1:
            case 2:
                callOneByOne();
                break;
            case 3:
            case 4:
                callHowMany();
                break;
            case 5:
            case 6:
                callDay();
                break;
            case 7:
            case 8:
                callSeveral();
                break;
            default:
                callKept();
                break;
        }
    }

    private void callHouse() {
        int a = upTo(4);
        int b = upTo(21);
        int c = random.nextInt(3) == 0 ? random.nextInt() : random.nextInt(70) - 5;
        int d = random.nextInt(3) == 0 ? random.nextInt() : random.nextInt(20) - 5;
        switch (random.nextInt(6)) {
            case 0:
                write(houseText(), 76);
                same("house()", x.house(), m.house());
                break;
            case 1:
            case 2:
                String s = random.nextInt(3) == 0 ? USUAL[random.nextInt(USUAL.length)] : priceText(0);
                write(random.nextInt(4) == 0 ? spoilt(s, "lmohwk()<>=+-*0123456789x") : s, 40);
                same("price()", x.price(), m.price());
                break;
            case 3:
                same("sheet(" + a + ", " + b + ", " + c + ", " + d + ")", x.sheet(a, b, c, d), m.sheet(a, b, c, d));
                break;
            case 4:
                int v = random.nextInt(4) == 0 ? upTo(60) : upTo(4);
                same("keeps(" + v + ")", x.keeps(v), m.keeps(v));
                break;
            default:
                int n = random.nextInt(3) == 0 ? upTo(24) : upTo(5);
                same("hours(" + n + ")", x.hours(n), m.hours(n));
                break;
        }
    }

    private void callOneByOne() {
        int p = person();
        int d = door();
        int r = room();
        int plan = upTo(4);
        switch (random.nextInt(7)) {
            case 0:
                same("pass(" + p + ", " + d + ")", x.pass(p, d), m.pass(p, d));
                break;
            case 1:
                same("way(" + p + ", " + r + ")", x.way(p, r), m.way(p, r));
                break;
            case 2:
                same("may(" + p + ")", x.may(p), m.may(p));
                break;
            case 3:
                same("goes(" + p + ", " + plan + ")", x.goes(p, plan), m.goes(p, plan));
                break;
            case 4:
                same("priced(" + p + ", " + d + ")", x.priced(p, d), m.priced(p, d));
                break;
            case 5:
                same("fro(" + p + ", " + r + ")", x.fro(p, r), m.fro(p, r));
                break;
            default:
                same("crowd()", x.crowd(), m.crowd());
                break;
        }
    }

    private void callHowMany() {
        int a = room();
        int b = room();
        int d = door();
        int n = random.nextInt(4) == 0 ? upTo(13) : upTo(6);
        switch (random.nextInt(9)) {
            case 0:
                same("many(" + a + ", " + b + ")", x.many(a, b), m.many(a, b));
                break;
            case 1:
                same("bars(" + a + ", " + b + ")", x.bars(a, b), m.bars(a, b));
                break;
            case 2:
                same("counts(" + a + ", " + b + ", " + d + ")", x.counts(a, b, d), m.counts(a, b, d));
                break;
            case 3:
                same("more(" + n + ")", x.more(n), m.more(n));
                break;
            case 4:
                int v = upTo(61);
                String call = "build(" + a + ", " + b + ", " + n + ", " + v + ")";
                same(call, x.build(a, b, n, v), m.build(a, b, n, v));
                break;
            case 5:
                int k = upTo(100);
                same("never(" + a + ", " + b + ", " + k + ")", x.never(a, b, k), m.never(a, b, k));
                break;
            case 6:
                same("home(" + a + ")", x.home(a), m.home(a));
                break;
            case 7:
                int bits = upTo(4096);
                same("fire(" + bits + ")", x.fire(bits), m.fire(bits));
                break;
            default:
                same("late(" + a + ")", x.late(a), m.late(a));
                break;
        }
    }

    private void callDay() {
        int plan = upTo(4);
        switch (random.nextInt(5)) {
            case 0:
                if (random.nextInt(3) == 0) {
                    same("day(" + plan + ")", x.day(plan), m.day(plan));
                }
                break;
            case 1:
                same("would(" + plan + ")", x.would(plan), m.would(plan));
                break;
            case 2:
                same("plan()", x.plan(), m.plan());
                break;
            case 3:
                same("order(" + plan + ")", x.order(plan), m.order(plan));
                break;
            default:
                same("leave(" + plan + ")", x.leave(plan), m.leave(plan));
                break;
        }
    }

    private void callSeveral() {
        int p = person();
        int q = person();
        int a = room();
        int b = room();
        int bits = random.nextInt(20) == 0 ? random.nextInt() : random.nextInt(4) == 0 ? upTo(4096) : upTo(1 << rooms);
        switch (random.nextInt(5)) {
            case 0:
                same("tour(" + p + ", " + bits + ")", x.tour(p, bits), m.tour(p, bits));
                break;
            case 1:
                same("send(" + bits + ")", x.send(bits), m.send(bits));
                break;
            case 2:
            case 3:
                same("two(" + p + ", " + a + ", " + q + ", " + b + ")", x.two(p, a, q, b), m.two(p, a, q, b));
                break;
            default:
                callKeep();
                break;
        }
    }

    private void callKeep() {
        int door = door();
        int n = upTo(11);
        int c = upTo(11);
        int d = upTo(Math.max(1, Math.min(11, 11 - c)));
        int a = upTo(100);
        int b = upTo(100) < 50 ? a + upTo(Math.max(1, 100 - a)) : upTo(100);
        String call = "keep(" + door + ", " + n + ", " + c + ", " + a + ", " + d + ", " + b + ")";
        same(call, x.keep(door, n, c, a, d, b), m.keep(door, n, c, a, d, b));
    }

    private void callKept() {
        int a = room();
        int b = room();
        int p = person();
        int i = upTo(3);
        switch (random.nextInt(6)) {
            case 0:
                same("sure(" + a + ", " + b + ")", x.sure(a, b), m.sure(a, b));
                break;
            case 1:
                int maid = upTo(4);
                int d = door();
                int n = random.nextBoolean() ? upTo(61) : upTo(5);
                same("says(" + maid + ", " + d + ", " + n + ")", x.says(maid, d, n), m.says(maid, d, n));
                break;
            case 2:
                int who = upTo(4);
                same("trust(" + who + ")", x.trust(who), m.trust(who));
                break;
            case 3:
                int maids = upTo(16);
                int e = random.nextBoolean() ? upTo(61) : upTo(3);
                String call = "safe(" + p + ", " + a + ", " + maids + ", " + e + ")";
                same(call, x.safe(p, a, maids, e), m.safe(p, a, maids, e));
                break;
            case 4:
                same("put(" + i + ")", x.put(i) ? 1 : 0, m.put(i) ? 1 : 0);
                break;
            default:
                same("again(" + i + ")", x.again(i) ? 1 : 0, m.again(i) ? 1 : 0);
                break;
        }
    }

    private void compareAll() {
        int length = told.length();
        int before = wrong;
        for (int what = -1; what <= 10; what++) {
            same("count(" + what + ")", x.count(what), m.count(what));
        }
        for (int i = 0; i < m.row.size(); i++) {
            same("row(" + i + ")", x.row(i), m.row(i));
        }
        for (int d = 0; d < m.doors.size(); d++) {
            for (int what = 0; what <= 5; what++) {
                same("door(" + d + ", " + what + ")", x.door(d, what), m.door(d, what));
            }
        }
        for (int p = 0; p < m.people.size(); p++) {
            for (int what = 0; what <= 7; what++) {
                same("of(" + p + ", " + what + ")", x.of(p, what), m.of(p, what));
            }
        }
        same("door beyond throws", throwsBeyond(0) ? 1 : 0, 1);
        same("of beyond throws", throwsBeyond(1) ? 1 : 0, 1);
        same("row beyond throws", throwsBeyond(2) ? 1 : 0, 1);
        if (wrong == before) {
            told.setLength(length);
        }
    }

    private boolean throwsBeyond(int which) {
        try {
            if (which == 0) {
                x.door(m.doors.size(), 0);
            } else if (which == 1) {
                x.of(m.people.size(), 0);
            } else {
                x.row(m.row.size());
            }
            return false;
        } catch (NoSuchElementException e) {
            return true;
        }
    }
}
