import java.util.ArrayList;
import java.util.Arrays;
import java.util.List;
import java.util.NoSuchElementException;

/** For each promise of the document answers worked out by hand: ordinary ones, edges, wrong inputs. */
public final class PromisesTest {
    private static int wrong = 0;
    private static int promise = 0;

    public static void main(String[] args) {
        newObject();
        sign();
        end();
        house();
        houseBeyondItsLength();
        houseWithoutRoom();
        price();
        door();
        of();
        sheet();
        keeps();
        hours();
        pass();
        way();
        may();
        goes();
        goesByPlans();
        priced();
        fro();
        crowd();
        many();
        bars();
        counts();
        more();
        build();
        never();
        home();
        fire();
        late();
        day();
        would();
        plan();
        order();
        leave();
        tour();
        send();
        two();
        keep();
        sure();
        says();
        trust();
        safe();
        put();
        again();
        count();
        row();
        System.out.println(wrong == 0 ? "all promises hold" : wrong + " answers are not as due");
        if (wrong != 0) {
            System.exit(1);
        }
    }

    private static void due(String call, long got, long want) {
        if (got != want) {
            wrong++;
            System.out.println("promise " + promise + ": " + call + " answered " + got + ", due is " + want);
        }
    }

    private static void due(String call, boolean got, boolean want) {
        due(call, got ? 1 : 0, want ? 1 : 0);
    }

    private static void dueRow(String call, ClosesAfterSeventh x, long... want) {
        List<Long> got = new ArrayList<>();
        for (int i = 0; i < x.count(7); i++) {
            got.add(x.row(i));
        }
        if (!got.toString().equals(Arrays.toString(want))) {
            wrong++;
            System.out.println("promise " + promise + ": the ROW of " + call + " is " + got + ", due is "
                    + Arrays.toString(want));
        }
    }

    private interface Call {
        void run();
    }

    private static void dueThrow(String call, Call run) {
        boolean thrown = false;
        try {
            run.run();
        } catch (NoSuchElementException e) {
            thrown = true;
        }
        due(call + " throws NoSuchElementException", thrown, true);
    }

    private static void write(ClosesAfterSeventh x, String s) {
        x.end(0);
        for (int i = 0; i < s.length(); i += 4) {
            int v = 0;
            for (int j = i; j < i + 4; j++) {
                v = v << 8 | (j < s.length() ? s.charAt(j) : 0);
            }
            x.sign(v);
        }
        x.end(s.length());
    }

    private static int tellHouse(ClosesAfterSeventh x, String s) {
        write(x, s);
        return x.house();
    }

    private static int tellPrice(ClosesAfterSeventh x, String s) {
        write(x, s);
        return x.price();
    }

    private static ClosesAfterSeventh with(String... texts) {
        ClosesAfterSeventh x = new ClosesAfterSeventh();
        for (String s : texts) {
            due("house of " + s, tellHouse(x, s), s.split(";").length);
        }
        return x;
    }

    private static void dueHouse(String s, int want) {
        ClosesAfterSeventh x = new ClosesAfterSeventh();
        due("house of " + s, tellHouse(x, s), want);
        due("signs behind house", x.count(8), 0);
        if (want < 0) {
            due("DOORS behind a wrong " + s, x.count(0), 0);
            due("PEOPLE behind a wrong " + s, x.count(1), 0);
        }
    }

    private static String times(String s, int n) {
        return s.repeat(n);
    }

    private static void newObject() {
        promise = 1;
        ClosesAfterSeventh x = new ClosesAfterSeventh();
        for (int what = 0; what <= 9; what++) {
            due("count(" + what + ")", x.count(what), what == 6 ? 1 : 0);
        }
        due("may(0)", x.may(0), -1);
        due("crowd()", x.crowd(), -2);
        due("again(0)", x.again(0), false);
        dueThrow("door(0, 0)", () -> x.door(0, 0));
        dueThrow("of(0, 0)", () -> x.of(0, 0));
        dueThrow("row(0)", () -> x.row(0));
        due("NONE", ClosesAfterSeventh.NONE, -1);
    }

    private static void sign() {
        promise = 2;
        ClosesAfterSeventh x = new ClosesAfterSeventh();
        due("sign(s0,7)", x.sign('s' << 24 | '0' << 16 | ',' << 8 | '7'), 4);
        due("house()", x.house(), 1);
        due("of(0, 2)", x.of(0, 2), 7);
        due("sign(-1)", x.sign(-1), 4);
        due("house()", x.house(), -1);
        for (int i = 1; i <= 20; i++) {
            due("sign " + i, x.sign(0x70302c31), 4 * i);
        }
        due("sign beyond 80", x.sign(0), -1);
        due("count(8)", x.count(8), 80);
        x.end(77);
        due("sign beyond 80", x.sign(0), -1);
        x.end(76);
        due("sign up to 80", x.sign(0), 80);
    }

    private static void end() {
        promise = 3;
        ClosesAfterSeventh x = new ClosesAfterSeventh();
        due("end(0)", x.end(0), true);
        due("end(1)", x.end(1), false);
        x.sign(0x70302c31);
        due("end(5)", x.end(5), false);
        due("end(-1)", x.end(-1), false);
        due("count(8)", x.count(8), 4);
        due("end(4)", x.end(4), true);
        due("end(3)", x.end(3), true);
        due("count(8)", x.count(8), 3);
        due("end(4)", x.end(4), false);
        due("house()", x.house(), -4);
    }

    private static void house() {
        promise = 4;
        dueHouse("", 0);
        dueHouse("d0-1,2", 1);
        dueHouse("d00-01,05@09;p00,00>00<;s11,99", 3);
        dueHouse("d10>11,60@60", 1);
        dueHouse("x", -1);
        dueHouse("D0-1,2", -1);
        dueHouse(";", -1);
        dueHouse("d", -2);
        dueHouse("d-1,2", -2);
        dueHouse("d12-1,2", -3);
        dueHouse("d112-1,2", -4);
        dueHouse("d1", -3);
        dueHouse("d1=2,3", -3);
        dueHouse("d1-1,2", -4);
        dueHouse("d1-01,2", -5);
        dueHouse("d1-10,2", 1);
        dueHouse("d1-12,2", -5);
        dueHouse("d1>1", -4);
        dueHouse("d1-1x", -4);
        dueHouse("d1-2,", -6);
        dueHouse("d1-2,x", -6);
        dueHouse("d1-2,61", -7);
        dueHouse("d1-2,600", -8);
        dueHouse("d1-2,5@", -8);
        dueHouse("d1-2,5@99", -9);
        dueHouse("d1-2,5@5@5", -9);
        dueHouse("d1-2,5>5", -7);
        dueHouse("d1-2,5;", -8);
        dueHouse("d1-2,5;;", -8);
        dueHouse("d1-2,5;p", -9);
        dueHouse("p1-2", -3);
        dueHouse("p12,2", -3);
        dueHouse("p1,100", -6);
        dueHouse("p1,99", 1);
        dueHouse("p1,9<", -5);
        dueHouse("p1,9>", -6);
        dueHouse("p1,9>12", -7);
        dueHouse("p1,9>11<<", -9);
        dueHouse("p1,9>1<>", -8);
        dueHouse("s1,9@1", -5);
        dueHouse("p1,9\0", -5);
        ClosesAfterSeventh x = with("d0-1,2;p0,3", "d1-2,4;p1,5>2");
        due("DOORS told behind", x.count(0), 2);
        due("the second one's LETS", x.door(1, 3), 4);
        due("the second one's WORTH", x.of(1, 2), 5);
        due("a wrong one", tellHouse(x, "d2-3,4;d3-3,1"), -11);
        due("DOORS as before", x.count(0), 2);
        due("the ROW as before", x.count(7), 0);
    }

    private static void houseBeyondItsLength() {
        String ten = times("d0-1,1;", 10);
        dueHouse(ten + "d0-1,1", 11);
        dueHouse(ten + "d0-1,12", -77);
        dueHouse(ten + "d0-1,1x", -77);
        dueHouse(ten + "d0-1,1;x", -77);
        dueHouse(ten + "d0-1,1;;", -77);
        dueHouse(ten + "d0-1;", -75);
        dueHouse(ten + "d0-1;xxxxx", -75);
        dueHouse(ten + "p0,9>12", -77);
        dueHouse(ten + "d0-10,", -77);
        dueHouse(ten + "d0-10,99", -77);
        dueHouse(ten + "d9-12,99", -75);
        String upTo72 = times("d0-1,1;", 8) + "d0-1,10;d0-1,10;";
        dueHouse(upTo72 + "d2-12", -77);
        dueHouse(upTo72 + "d1-12", -76);
        dueHouse(upTo72 + "d1-10,5", -76);
        dueHouse(upTo72 + "d0-2,", -77);
    }

    private static void houseWithoutRoom() {
        dueHouse(times("p0,1;", 7) + "s0,1", 8);
        dueHouse(times("p0,1;", 8) + "s0,1", -41);
        dueHouse(times("p0,1;", 8) + "x0,1", -41);
        dueHouse(times("p0,1;", 8) + "d0-1,1", 9);
        String ten = times("d0-1,1;", 9) + "d0-1,1";
        ClosesAfterSeventh x = with(ten);
        due("eleven more", tellHouse(x, ten + ";d0-1,1"), -71);
        due("DOORS as before", x.count(0), 10);
        due("ten more", tellHouse(x, ten), 10);
        due("a person more", tellHouse(x, "p3,1"), 1);
        due("one more", tellHouse(x, "d0-1,1"), -1);
        due("one more, wrong later", tellHouse(x, "p0,1;d0-0,1"), -6);
        due("DOORS", x.count(0), 20);
        due("PEOPLE", x.count(1), 1);
    }

    private static void duePrice(String s, int want) {
        ClosesAfterSeventh x = with("d0>1,9;p0,8");
        due("price of " + s, tellPrice(x, s), want);
        due("signs behind price", x.count(8), 0);
    }

    private static void price() {
        promise = 5;
        duePrice("", 0);
        duePrice("x", -1);
        duePrice("l", 0);
        duePrice("123", 0);
        duePrice("1234", -4);
        duePrice("l+", -3);
        duePrice("+l", -1);
        duePrice("ll", -2);
        duePrice("5l", -2);
        duePrice("---l", 0);
        duePrice("l--l", 0);
        duePrice("l*-l", 0);
        duePrice("l-*l", -3);
        duePrice("l<m<o", -4);
        duePrice("l<m=o", -4);
        duePrice("l<(m<o)", 0);
        duePrice("(l<m)<(m<o)", 0);
        duePrice("(l<m<o)", -5);
        duePrice("l<m+o>h", -6);
        duePrice("()", -2);
        duePrice("(l", -3);
        duePrice("l)", -2);
        duePrice("((((l))))", 0);
        duePrice("(((((l)))))", -5);
        duePrice("(l)(l)", -4);
        duePrice("((((l))))+((((l))))", 0);
        duePrice("l~m", -2);
        duePrice("l" + times("+l", 19) + "*", -41);
        duePrice("l" + times("+l", 19) + "+1", -41);
        duePrice("ll" + times("+l", 19) + "+1", -2);
        duePrice(times("-", 39) + "l", 0);
        duePrice(times("-", 40) + "l", -41);
        duePrice(times("+", 41), -1);
        duePrice("1+" + times("l+", 17) + "9999", -40);
        ClosesAfterSeventh x = with("d0>1,9;p0,8");
        due("price()", tellPrice(x, "7"), 0);
        due("a wrong price()", tellPrice(x, "8+"), -3);
        due("priced as before", x.priced(0, 0), 7);
        due("an empty price()", tellPrice(x, ""), 0);
        due("priced without", x.priced(0, 0), 1);
    }

    private static void door() {
        promise = 6;
        ClosesAfterSeventh x = with("d3-2,4@5;d11>0,60;p3,1");
        int[] first = {3, 2, 0, 4, 4, 5};
        int[] second = {11, 0, 1, 60, 60, -1};
        x.pass(0, 0);
        for (int what = 0; what <= 5; what++) {
            due("door(0, " + what + ")", x.door(0, what), what == 4 ? 3 : first[what]);
            due("door(1, " + what + ")", x.door(1, what), second[what]);
        }
        dueThrow("door(2, 0)", () -> x.door(2, 0));
        dueThrow("door(-1, 0)", () -> x.door(-1, 0));
        dueThrow("door(0, 6)", () -> x.door(0, 6));
        dueThrow("door(0, -1)", () -> x.door(0, -1));
    }

    private static void of() {
        promise = 7;
        ClosesAfterSeventh x = with("d0-1,9;p0,5>1<;s1,99>1;p2,0;p3,4>3<");
        int[][] want = {{0, 0, 5, 1, 1, 0, 1, 0}, {1, 1, 99, 1, 0, 1, -1, 1}, {2, 0, 0, -1, 0, 0, -1, 2},
            {3, 0, 4, 3, 1, 1, -1, 3}};
        for (int p = 0; p < 4; p++) {
            for (int what = 0; what <= 7; what++) {
                due("of(" + p + ", " + what + ")", x.of(p, what), want[p][what]);
            }
        }
        x.pass(0, 0);
        due("there, not DONE", x.of(0, 5), 0);
        due("back next", x.of(0, 6), 0);
        due("first", x.of(0, 7), 0);
        x.pass(0, 0);
        due("DONE", x.of(0, 5), 1);
        due("nowhere", x.of(0, 6), -1);
        x.pass(0, 0);
        due("stays DONE", x.of(0, 5), 1);
        dueThrow("of(4, 0)", () -> x.of(4, 0));
        dueThrow("of(-1, 0)", () -> x.of(-1, 0));
        dueThrow("of(0, 8)", () -> x.of(0, 8));
        dueThrow("of(0, -1)", () -> x.of(0, -1));
    }

    private static void sheet() {
        promise = 8;
        ClosesAfterSeventh x = with("d0-1,5;d0-1,6;d0-1,7");
        due("sheet(2, 2, 10, 3)", x.sheet(2, 2, 10, 3), 30);
        due("LEFT behind it", x.door(2, 4), 7);
        due("sheet(0, 3, 256, 1)", x.sheet(0, 3, 256, 1), 3);
        due("sheet(0, 3, 128, 1)", x.sheet(0, 3, 128, 1), 0);
        due("sheet(0, 3, 127, 1)", x.sheet(0, 3, 127, 1), 60);
        due("sheet(1, 3, 65537, 1)", x.sheet(1, 3, 65537, 1), 6);
        due("sheet(1, 2, 32767, 1)", x.sheet(1, 2, 32767, 1), 67);
        due("sheet(2, 2, 2147483647, 1)", x.sheet(2, 2, Integer.MAX_VALUE, 1), 67);
        due("sheet(2, 3, 65537, 0)", x.sheet(2, 3, 65537, 0), 180);
        due("sheet(2, 20, -1, 1)", x.sheet(2, 20, -1, 1), 1);
        due("sheet(2, 0, 1, 1)", x.sheet(2, 0, 1, 1), 18);
        x.sheet(2, 3, 1, 0);
        due("sheet(2, -1, 9, 9)", x.sheet(2, -1, 9, 9), -2);
        due("sheet(0, 21, 9, 9)", x.sheet(0, 21, 9, 9), -1);
        due("sheet(4, 1, 9, 9)", x.sheet(4, 1, 9, 9), -1);
        due("sheet(-1, -1, 9, 9)", x.sheet(-1, -1, 9, 9), -1);
        due("sheet(3, 21, 9, 9)", x.sheet(3, 21, 9, 9), -1);
        due("nothing changed", x.count(4), 3);
        due("sheet(3, -5, 9, 9)", x.sheet(3, -5, 9, 9), -3);
        due("all LETS", x.count(4), 18);
    }

    private static void keeps() {
        promise = 9;
        ClosesAfterSeventh x = new ClosesAfterSeventh();
        due("keeps(59)", x.keeps(59), 1);
        due("keeps(60)", x.keeps(60), -1);
        due("keeps(-1)", x.keeps(-1), -1);
        due("keeps(0)", x.keeps(0), 59);
        due("count(6)", x.count(6), 0);
    }

    private static void hours() {
        promise = 10;
        ClosesAfterSeventh x = with("d0-1,5@2;d0-1,6;d0-1,3@0;p0,1");
        due("hours(0)", x.hours(0), 0);
        due("hours(24)", x.hours(24), -1);
        due("hours(-1)", x.hours(-1), -1);
        due("hours(11)", x.hours(11), 11);
        due("sum before noon", x.count(4), 14);
        due("hours(13)", x.hours(13), -1);
        due("hours(3)", x.hours(3), 14);
        due("sum behind noon", x.count(4), 8);
        x.pass(0, 0);
        due("hours(9)", x.hours(9), 23);
        due("noon comes once", x.count(4), 7);
        due("hours(1)", x.hours(1), -1);
        due("hours(0)", x.hours(0), 23);
        due("count(2)", x.count(2), 23);
        ClosesAfterSeventh y = with("d0-1,5@9;p0,1");
        due("hours(12)", y.hours(12), 12);
        y.pass(0, 0);
        y.hours(0);
        due("noon has begun already", y.count(4), 8);
        y.hours(1);
        due("noon is over", y.count(4), 8);
        tellHouse(y, "d0-1,5@9");
        due("a DOOR told behind noon", y.door(1, 4), 5);
    }

    private static void pass() {
        promise = 11;
        ClosesAfterSeventh x = with("d0-1,2;d0>1,1;d2-3,1;d0-1,0;p0,1;s0,1");
        due("pass(0, 1)", x.pass(0, 1), 0);
        due("it is on the other side", x.of(0, 0), 1);
        due("pass(0, 1), shut and the wrong way", x.pass(0, 1), -2);
        due("pass(1, 1), shut", x.pass(1, 1), -2);
        due("pass(0, 0)", x.pass(0, 0), 1);
        due("pass(1, 0), a STRANGER", x.pass(1, 0), 1);
        due("pass(1, 0), a STRANGER", x.pass(1, 0), 1);
        due("pass(0, 2), not there", x.pass(0, 2), -2);
        due("pass(0, 3), shut", x.pass(0, 3), -2);
        due("pass(2, 0)", x.pass(2, 0), -1);
        due("pass(-1, 0)", x.pass(-1, 0), -1);
        due("pass(0, 4)", x.pass(0, 4), -1);
        due("pass(0, -1)", x.pass(0, -1), -1);
        ClosesAfterSeventh y = with("d0>1,3;p1,1");
        due("pass(0, 0), the wrong way", y.pass(0, 0), -2);
    }

    private static void way() {
        promise = 12;
        ClosesAfterSeventh x = with("d0-1,1;d1-2,1;d0-3,1;d3-2,1;d0-2,0;d0-1,1;d4>2,1;p0,1;p2,1");
        due("way(0, 2)", x.way(0, 2), 2);
        dueRow("way(0, 2)", x, 0, 1);
        due("way(1, 0)", x.way(1, 0), 2);
        dueRow("way(1, 0)", x, 1, 0);
        due("way(1, 4), the wrong way", x.way(1, 4), -2);
        dueRow("way(1, 4)", x, 1, 0);
        due("way(0, 0)", x.way(0, 0), 0);
        dueRow("way(0, 0)", x);
        due("way(0, 12)", x.way(0, 12), -1);
        due("way(0, -1)", x.way(0, -1), -1);
        due("way(2, 0)", x.way(2, 0), -1);
        due("way(-1, 0)", x.way(-1, 0), -1);
        x.sheet(2, 1, 0, 0);
        due("way(0, 2) by the second of two", x.way(0, 2), 2);
        dueRow("way(0, 2)", x, 2, 3);
        x.sheet(2, 5, 1, 0);
        due("way(0, 2) by the fewest", x.way(0, 2), 1);
        dueRow("way(0, 2)", x, 4);
    }

    private static void may() {
        promise = 13;
        ClosesAfterSeventh x = with("d0-1,1;d1>2,1;d2-3,0;d4-0,1;p0,1;p2,1;p11,1");
        due("may(0)", x.may(0), 1 + 2 + 4 + 16);
        due("may(1)", x.may(1), 4);
        due("may(2)", x.may(2), 2048);
        due("may(3)", x.may(3), -1);
        due("may(-1)", x.may(-1), -1);
    }

    private static void goes() {
        promise = 14;
        ClosesAfterSeventh x = with("d0-1,2;d1-2,2;p0,1>2<;p0,1;s0,1>2;p0,1>3;p2,1>0");
        due("goes(0, 0)", x.goes(0, 0), 2);
        dueRow("goes(0, 0)", x, 0, 1);
        due("where it is", x.of(0, 0), 2);
        due("goes(1, 0), nowhere", x.goes(1, 0), 0);
        dueRow("goes(1, 0)", x);
        due("goes(2, 0), a STRANGER", x.goes(2, 0), 2);
        due("LEFT", x.count(4), 2);
        due("goes(3, 0), it can't", x.goes(3, 0), -2);
        due("it stays", x.of(3, 0), 0);
        due("goes(0, 0), back", x.goes(0, 0), 2);
        dueRow("goes(0, 0)", x, 1, 0);
        due("goes(0, 0), DONE", x.goes(0, 0), 0);
        due("goes(4, 0), shut", x.goes(4, 0), -2);
        due("goes(0, 4)", x.goes(0, 4), -1);
        due("goes(0, -1)", x.goes(0, -1), -1);
        due("goes(5, 0)", x.goes(5, 0), -1);
        due("goes(-1, 0)", x.goes(-1, 0), -1);
    }

    private static void goesByPlans() {
        ClosesAfterSeventh x = with("d0-2,2;d0-1,60;d1-2,60;d0>2,1;p0,7>2");
        x.put(0);
        long[][] want = {{0}, {1, 2}, {0}, {0}};
        for (int plan = 0; plan < 4; plan++) {
            due("goes(0, " + plan + ")", x.goes(0, plan), want[plan].length);
            dueRow("goes(0, " + plan + ")", x, want[plan]);
            x.again(0);
        }
        x.keeps(2);
        due("goes(0, 2), KEEP 2", x.goes(0, 2), 2);
        dueRow("goes(0, 2), KEEP 2", x, 1, 2);
        x.again(0);
        x.keeps(0);
        due("goes(0, 2), KEEP 0", x.goes(0, 2), 1);
        x.again(0);
        tellPrice(x, "9-o*8");
        due("goes(0, 3), the dear one not", x.goes(0, 3), 1);
        dueRow("goes(0, 3)", x, 3);
        x.again(0);
        tellPrice(x, "10-(l=60)*5-o*0");
        due("goes(0, 3), equal sums", x.goes(0, 3), 1);
        dueRow("goes(0, 3), equal sums", x, 0);
        x.again(0);
        tellPrice(x, "10-(l=60)*6");
        due("goes(0, 3), the less sum", x.goes(0, 3), 2);
        ClosesAfterSeventh y = with("d0-1,30;d1-2,31;d0-2,1;d0-2,1;p0,7>2");
        due("goes(0, 1), 61 against 60", y.goes(0, 1), 1);
        dueRow("goes(0, 1)", y, 2);
        ClosesAfterSeventh z = with("d0-2,9;d0-1,9;d1-2,9;p0,7>2;p0,7>2;s2,7>0;p0,7");
        tellPrice(z, "k+1");
        due("goes(0, 3), where the others do not go", z.goes(0, 3), 2);
        dueRow("goes(0, 3)", z, 1, 2);
        due("goes(1, 3), where one other goes", z.goes(1, 3), 1);
        dueRow("goes(1, 3)", z, 0);
    }

    private static void priced() {
        promise = 15;
        ClosesAfterSeventh x = with("d0>1,9;d1-2,5;p0,8>2;p0,1>2;s1,1>2;p2,1;p1,1>1");
        x.pass(0, 0);
        x.hours(3);
        duePriced(x, 0, "l", 8);
        duePriced(x, 0, "m", 9);
        duePriced(x, 0, "o", 1);
        duePriced(x, 1, "9+o", 9);
        duePriced(x, 0, "h", 3);
        duePriced(x, 0, "w", 8);
        duePriced(x, 0, "k", 1);
        duePriced(x, 1, "k", 2);
        duePriced(x, 1, "10*w+k", 82);
        duePriced(x, 0, "20-3-4", 13);
        duePriced(x, 0, "20-(3-4)", 21);
        duePriced(x, 0, "2+3*4", 14);
        duePriced(x, 0, "-2+9", 7);
        duePriced(x, 0, "9*--2", 18);
        duePriced(x, 0, "1-2*-3", 7);
        duePriced(x, 0, "9+(3<2)*10", 9);
        duePriced(x, 0, "9+(2<3)*10", 19);
        duePriced(x, 0, "9+(2>3)*10", 9);
        duePriced(x, 0, "9+(3>2)*10", 19);
        duePriced(x, 0, "9+(2=3)*10", 9);
        duePriced(x, 0, "9+(7=3+4)*10", 19);
        duePriced(x, 0, "3<2", 1);
        duePriced(x, 0, "5-l", 1);
        duePriced(x, 0, "99*101", 9999);
        duePriced(x, 0, "100*100", 9999);
        duePriced(x, 0, "999*999*999", 9999);
        // It wraps round to -1303958299, as ints do.
        duePriced(x, 0, "999*999*999*3", 1);
        due("priced(5, 0)", x.priced(5, 0), -1);
        due("priced(-1, 0)", x.priced(-1, 0), -1);
        due("priced(0, 2)", x.priced(0, 2), -1);
        due("priced(0, -1)", x.priced(0, -1), -1);
    }

    private static void duePriced(ClosesAfterSeventh x, int door, String text, int want) {
        due("price " + text, tellPrice(x, text), 0);
        due("priced(0, " + door + ") by " + text, x.priced(0, door), want);
    }

    private static void fro() {
        promise = 16;
        ClosesAfterSeventh x = with("d0-1,5;d0>2,1;d2-0,1;d3-4,1;p0,1;s0,1;p3,1");
        due("fro(0, 1)", x.fro(0, 1), 2);
        dueRow("fro(0, 1)", x, 1, 5);
        due("fro(0, 2)", x.fro(0, 2), 1);
        dueRow("fro(0, 2)", x, 0, 2);
        due("fro(1, 2), a STRANGER", x.fro(1, 2), 99);
        dueRow("fro(1, 2)", x, 0, 198);
        due("fro(2, 4)", x.fro(2, 4), 0);
        dueRow("fro(2, 4)", x, 1, 1);
        due("fro(0, 4)", x.fro(0, 4), 0);
        dueRow("fro(0, 4)", x, 0, 0);
        due("nothing changes", x.count(4), 8);
        due("it is where it was", x.of(0, 0), 0);
        due("fro(0, 0)", x.fro(0, 0), -1);
        due("fro(0, 12)", x.fro(0, 12), -1);
        due("fro(0, -1)", x.fro(0, -1), -1);
        due("fro(3, 0)", x.fro(3, 0), -1);
        ClosesAfterSeventh y = with("d0-1,60;d0-1,60;d0-1,60;d0-1,60;p0,1>1<");
        due("99 at most", y.fro(0, 1), 99);
        dueRow("99 at most", y, 0, 198);
        due("its ERRAND is as it was", y.of(0, 5), 0);
    }

    private static void crowd() {
        promise = 17;
        ClosesAfterSeventh x = with("d0-1,1;d1-2,2;d3-2,5;p0,1>2;s0,1>2;p1,1>2;p1,1>2;p3,1>2;p1,1;p2,1>2");
        due("crowd()", x.crowd(), 1);
        dueRow("crowd()", x, 4, 3);
        ClosesAfterSeventh y = with("d0-1,1;d1-2,1;p0,1>2<;s0,1>1");
        due("the first of equal ones", y.crowd(), 0);
        dueRow("crowd()", y, 2, 2);
        y.goes(0, 0);
        due("none has a WAY", y.crowd(), -2);
        dueRow("crowd()", y, 0, 1);
        y.sheet(3, 0, 0, 0);
        due("one back, one there", y.crowd(), 0);
    }

    private static void many() {
        promise = 18;
        ClosesAfterSeventh x = with("d0-1,3;d0-1,2;d1>2,4;d1-3,0");
        due("many(0, 2)", x.many(0, 2), 4);
        dueRow("many(0, 2)", x, 4);
        due("many(2, 0)", x.many(2, 0), 0);
        dueRow("many(2, 0)", x, 0);
        due("many(1, 0)", x.many(1, 0), 5);
        dueRow("many(1, 0)", x, 3);
        due("many(0, 0)", x.many(0, 0), -1);
        due("many(12, 0)", x.many(12, 0), -1);
        due("many(0, -1)", x.many(0, -1), -1);
        ClosesAfterSeventh y = with("d0-1,1;d0-2,1;d1-2,1;d1-3,1;d2-3,1");
        due("many(0, 3)", y.many(0, 3), 2);
        dueRow("many(0, 3)", y, 3);
        ClosesAfterSeventh z = with("d0-1,1;d1-2,1;d2-5,1;d0-3,1;d3-2,1;d1-4,1;d4-5,1");
        due("one has to turn round", z.many(0, 5), 2);
    }

    private static void bars() {
        promise = 19;
        ClosesAfterSeventh x = with("d0-1,3;d0-1,2;d1>2,4;d0-2,0");
        due("bars(0, 2)", x.bars(0, 2), 1);
        due("bars(0, 1)", x.bars(0, 1), 2);
        due("bars(2, 0)", x.bars(2, 0), 0);
        due("bars(1, 1)", x.bars(1, 1), -1);
        due("bars(0, 12)", x.bars(0, 12), -1);
        x.sheet(2, 4, 1, 0);
        due("bars(0, 2), all open", x.bars(0, 2), 2);
        due("bars(2, 0), all open", x.bars(2, 0), 1);
    }

    private static void counts() {
        promise = 20;
        ClosesAfterSeventh x = with("d0-1,3;d0-1,2;d1>2,4;d0-2,0");
        int[][] want = {{2, 0}, {1, 0}, {4, 1}, {0, 1}};
        for (int d = 0; d < 4; d++) {
            due("counts(0, 2, " + d + ")", x.counts(0, 2, d), want[d][0]);
            dueRow("counts(0, 2, " + d + ")", x, want[d][1]);
        }
        due("counts(2, 0, 2), the wrong way", x.counts(2, 0, 2), 0);
        dueRow("counts(2, 0, 2)", x, 0);
        due("counts(0, 2, 4)", x.counts(0, 2, 4), -1);
        due("counts(0, 2, -1)", x.counts(0, 2, -1), -1);
        due("counts(0, 0, 0)", x.counts(0, 0, 0), -1);
        due("counts(0, 12, 0)", x.counts(0, 12, 0), -1);
    }

    private static void more() {
        promise = 21;
        ClosesAfterSeventh x = with("d0-1,1;d1-2,1");
        due("more(3)", x.more(3), 0);
        dueRow("more(3)", x, 8, 6);
        due("more(2)", x.more(2), 0);
        dueRow("more(2)", x, 4, 2);
        ClosesAfterSeventh y = with("d0>1,1;d1-2,1");
        due("more(3)", y.more(3), 1);
        dueRow("more(3)", y, 6, 4);
        due("more(12)", y.more(12), 1);
        due("more(1)", y.more(1), -1);
        due("more(13)", y.more(13), -1);
        ClosesAfterSeventh z = with("d5-6,0;d0-1,0");
        due("a shut one", z.more(2), 1);
        dueRow("a shut one", z, 2, 0);
        due("no DOORS", new ClosesAfterSeventh().more(2), -2);
        due("no DOORS, another n", new ClosesAfterSeventh().more(1), -1);
    }

    private static void build() {
        promise = 22;
        ClosesAfterSeventh x = with("d0-1,2;d2-3,5");
        due("build(0, 3, 4, 3)", x.build(0, 3, 4, 3), 3);
        dueRow("build(0, 3, 4, 3)", x, 0, 2);
        due("build(0, 1, 2, 60)", x.build(0, 1, 2, 60), 62);
        dueRow("build(0, 1, 2, 60)", x, 0, 1);
        due("build(3, 0, 2, 9)", x.build(3, 0, 2, 9), 0);
        dueRow("build(3, 0, 2, 9)", x, 0, 1);
        due("build(0, 11, 12, 1)", x.build(0, 11, 12, 1), 1);
        dueRow("build(0, 11, 12, 1)", x, 0, 11);
        due("nothing changes", x.count(0), 2);
        due("build(0, 0, 4, 3)", x.build(0, 0, 4, 3), -1);
        due("build(0, 12, 4, 3)", x.build(0, 12, 4, 3), -1);
        due("build(0, 3, 1, 3)", x.build(0, 3, 1, 3), -1);
        due("build(0, 3, 13, 3)", x.build(0, 3, 13, 3), -1);
        due("build(0, 3, 4, 0)", x.build(0, 3, 4, 0), -1);
        due("build(0, 3, 4, 61)", x.build(0, 3, 4, 61), -1);
        dueRow("refused ones", x, 0, 11);
        String ten = times("d0-1,1;", 9) + "d0-1,1";
        due("with twenty DOORS", with(ten, ten).build(0, 2, 3, 9), 9);
    }

    private static void never() {
        promise = 23;
        ClosesAfterSeventh x = with("d0-1,0;d0-1,0;d1>2,0");
        due("never(0, 1, 5)", x.never(0, 1, 5), 3);
        due("never(0, 1, 6)", x.never(0, 1, 6), 3);
        due("never(0, 1, 99)", x.never(0, 1, 99), 50);
        due("never(0, 2, 60)", x.never(0, 2, 60), 60);
        due("never(0, 2, 61)", x.never(0, 2, 61), -2);
        due("never(2, 0, 1)", x.never(2, 0, 1), -2);
        due("never(2, 0, 0)", x.never(2, 0, 0), 0);
        due("never(0, 1, 100)", x.never(0, 1, 100), -1);
        due("never(0, 1, -1)", x.never(0, 1, -1), -1);
        due("never(0, 0, 1)", x.never(0, 0, 1), -1);
        due("never(0, 12, 1)", x.never(0, 12, 1), -1);
        due("LEFT is as it was", x.count(4), 0);
    }

    private static void home() {
        promise = 24;
        ClosesAfterSeventh x = with("d0-1,1;d1-2,2;p0,1;p0,1;s1,1;p2,1;p1,1");
        due("home(2)", x.home(2), 3);
        dueRow("home(2)", x, 13);
        due("home(5)", x.home(5), 0);
        dueRow("home(5)", x, 0);
        due("home(12)", x.home(12), -1);
        due("home(-1)", x.home(-1), -1);
        due("nothing changes", x.count(4), 3);
        ClosesAfterSeventh y = with("d0-1,1;d0-2,1;d1-3,1;d2-3,1;d4-1,1;p0,1;p4,1");
        due("the first goes another way", y.home(3), 2);
        dueRow("the first goes another way", y, 3);
        due("nobody", with("d0-1,1").home(1), 0);
    }

    private static void fire() {
        promise = 25;
        ClosesAfterSeventh x = with("d0-1,1;d1-2,2;p0,1;p0,1;s1,1;p2,1;p1,1");
        due("fire(6)", x.fire(6), 4);
        dueRow("fire(6)", x, 29);
        due("fire(4)", x.fire(4), 3);
        dueRow("fire(4)", x, 13);
        due("fire(4095)", x.fire(4095), 5);
        dueRow("fire(4095)", x, 31);
        due("fire(1)", x.fire(1), 3);
        dueRow("fire(1)", x, 7);
        due("fire(2048)", x.fire(2048), 0);
        due("fire(0)", x.fire(0), -1);
        due("fire(4096)", x.fire(4096), -1);
        due("fire(-1)", x.fire(-1), -1);
    }

    private static void late() {
        promise = 26;
        due("two DOORS", with("d0-1,1;d0-1,1;p0,1;p0,1;s0,1;p1,1").late(1), 0);
        ClosesAfterSeventh x = with("d0-1,1;p0,1;p0,1;s0,1;p1,1;p5,1");
        due("late(1)", x.late(1), 7);
        due("late(0)", x.late(0), 0);
        due("late(5)", x.late(5), 0);
        due("late(12)", x.late(12), -1);
        due("late(-1)", x.late(-1), -1);
        due("nothing changes", x.count(4), 1);
        due("a STRANGER shuts nobody out", with("d0-1,1;p0,1;s0,1").late(1), 2);
    }

    private static void day() {
        promise = 27;
        ClosesAfterSeventh x = with("d0-1,3;p0,5>1<;p0,9>1<;p1,4;p1,2>0;p3,1>3");
        due("day(0)", x.day(0), 2);
        dueRow("day(0)", x, 6, 3, 10);
        due("LEFT", x.count(4), 0);
        due("who could not come back", x.of(1, 0), 1);
        due("day(0)", x.day(0), 2);
        dueRow("day(0)", x, 6, 0, 10);
        x.sheet(3, 0, 0, 0);
        due("day(1)", x.day(1), 4);
        dueRow("day(1)", x, 17, 2, 0);
        due("day(4)", x.day(4), -1);
        due("day(-1)", x.day(-1), -1);
        dueRow("refused ones", x, 17, 2, 0);
    }

    private static void would() {
        promise = 28;
        ClosesAfterSeventh x = with("d0-1,3;p0,5>1<;p0,9>1<;p1,4;p1,2>0;p3,1>3");
        for (int i = 0; i < 2; i++) {
            due("would(0)", x.would(0), 2);
            dueRow("would(0)", x, 6, 3, 10);
        }
        due("LEFT", x.count(4), 3);
        due("where one is", x.of(1, 0), 0);
        due("DONE", x.count(9), 16);
        due("would(2)", x.would(2), 2);
        dueRow("would(2), KEEP 1", x, 6, 2, 10);
        x.keeps(2);
        due("would(2)", x.would(2), 1);
        dueRow("would(2), KEEP 2", x, 1, 1, 11);
        due("would(4)", x.would(4), -1);
        due("would(-1)", x.would(-1), -1);
    }

    private static void plan() {
        promise = 29;
        ClosesAfterSeventh x = with("d0-2,1;d0-1,60;d1>2,60;p0,1>2;p2,8>0");
        due("plan()", x.plan(), 1);
        dueRow("plan()", x, 9, 3);
        due("nothing changes", x.count(4), 121);
        tellPrice(x, "(l=1)*9");
        x.sheet(2, 2, 1, 0);
        due("PRICED is like the first", x.plan(), 0);
        ClosesAfterSeventh y = with("d0-2,1;d0-1,9;d1>2,9;p0,1>2;p2,8>0");
        due("plan() of equal ones", y.plan(), 0);
        dueRow("plan() of equal ones", y, 1, 1);
        tellPrice(y, "(l=1)*9");
        due("plan() by the PRICE", y.plan(), 3);
        dueRow("plan() by the PRICE", y, 9, 3);
        due("nobody", new ClosesAfterSeventh().plan(), 0);
    }

    private static void order() {
        promise = 30;
        ClosesAfterSeventh x = with("d0-1,1;p0,2>1;p0,7>1;p0,7>1;p3,4>3");
        due("order(0)", x.order(0), 11);
        dueRow("order(0)", x, 1, 1, 0, 2);
        due("order(2)", x.order(2), 4);
        dueRow("order(2)", x, 0, 0, 1, 2);
        due("nothing changes", x.count(4), 1);
        due("order(4)", x.order(4), -1);
        ClosesAfterSeventh y = with("d0-1,1;d0-2,1;d2-1,9;p0,1>1;p2,1>1;p0,1>2");
        due("the fewest DOORS, then the least row", y.order(0), 3);
        dueRow("order(0)", y, 3, 0, 1, 2);
        ClosesAfterSeventh z = with("d0-1,2;d0-2,1;d2-1,1;p2,1>1<;p0,1>1;p0,1>1");
        due("the fewest DOORS in a later order", z.order(0), 2);
        dueRow("order(0)", z, 3, 1, 2, 0);
        String seven = times("p0,1>1;", 6) + "p0,1>1";
        due("more than six", with(seven).order(0), -3);
        due("more than six, another PLAN", with(seven).order(-1), -1);
        ClosesAfterSeventh six = with("d0-1,1;" + times("p0,1>1;", 5) + "p0,2>1");
        due("six", six.order(3), 2);
        dueRow("six", six, 1, 5, 0, 1, 2, 3, 4);
        due("nobody", new ClosesAfterSeventh().order(0), 0);
    }

    private static void leave() {
        promise = 31;
        ClosesAfterSeventh x = with("d0-1,1;p0,2>1;p0,7>1;p4,9>4;p5,1");
        due("leave(0)", x.leave(0), 0);
        dueRow("leave(0)", x, 16);
        due("leave(2)", x.leave(2), 0);
        dueRow("leave(2)", x, 9);
        due("nothing changes", x.count(4), 1);
        due("leave(4)", x.leave(4), -1);
        x.pass(1, 0);
        due("leave(0)", x.leave(0), 0);
        dueRow("leave(0)", x, 16);
        due("nobody", with("d0-1,1;p0,1;p1,1>1").leave(0), -2);
        due("nobody, another PLAN", new ClosesAfterSeventh().leave(-1), -1);
        ClosesAfterSeventh y = with("d0-1,2;p0,2>1<;p0,7>1;p0,7>1");
        due("the first is in the way", y.leave(0), 0);
        dueRow("the first is in the way", y, 14);
        ClosesAfterSeventh z = with("d0-1,2;p0,7>1;p0,2>1<;p0,7>1");
        due("the second is in the way", z.leave(0), 1);
        dueRow("the second is in the way", z, 14);
    }

    private static void tour() {
        promise = 32;
        ClosesAfterSeventh x = with("d0-1,1;d1-2,1;d2-3,1;d1-4,1;d6>0,1;p1,1;p6,1");
        due("tour(0, 9)", x.tour(0, 9), 4);
        dueRow("tour(0, 9)", x, 0, 3);
        due("tour(0, 17)", x.tour(0, 17), 3);
        dueRow("tour(0, 17)", x, 0, 4);
        due("tour(0, 19), its own too", x.tour(0, 19), 3);
        dueRow("tour(0, 19)", x, 0, 1, 4);
        due("tour(0, 2), its own alone", x.tour(0, 2), 0);
        dueRow("tour(0, 2)", x, 1);
        due("tour(1, 95), six", x.tour(1, 95), 6);
        dueRow("tour(1, 95)", x, 6, 0, 1, 4, 2, 3);
        due("tour(0, 64), it can't", x.tour(0, 64), -2);
        due("tour(0, 0)", x.tour(0, 0), 0);
        dueRow("tour(0, 0)", x);
        due("tour(0, 127), seven", x.tour(0, 127), -1);
        due("tour(0, 4096)", x.tour(0, 4096), -1);
        due("tour(0, -1)", x.tour(0, -1), -1);
        due("tour(2, 1)", x.tour(2, 1), -1);
        due("tour(-1, 1)", x.tour(-1, 1), -1);
    }

    private static void send() {
        promise = 33;
        ClosesAfterSeventh x = with("d0-1,1;d1-2,1;d2-3,1;d6>0,1;p6,1;p2,1;p0,1;p3,1");
        due("send(9)", x.send(9), 2);
        dueRow("send(9)", x, 3);
        due("send(6)", x.send(6), 1);
        dueRow("send(6)", x, 1);
        due("send(0)", x.send(0), 0);
        dueRow("send(0)", x, 0);
        due("send(65)", x.send(65), 0);
        due("send(32), none can", x.send(32), -2);
        due("send(127)", x.send(127), -1);
        due("send(-1)", x.send(-1), -1);
        due("send(4096)", x.send(4096), -1);
        due("nobody", with("d0-1,1").send(1), -1);
    }

    private static void two() {
        promise = 34;
        ClosesAfterSeventh x = with("d0-1,1;d0-2,1;d2-1,1;p0,1;p0,1;s0,1;p1,1");
        due("two(0, 1, 1, 1)", x.two(0, 1, 1, 1), 3);
        dueRow("two(0, 1, 1, 1)", x, 1, 0, 1, 2);
        due("two(0, 1, 2, 1), a STRANGER", x.two(0, 1, 2, 1), 2);
        dueRow("two(0, 1, 2, 1)", x, 1, 0, 0);
        due("two(0, 0, 3, 1), both there", x.two(0, 0, 3, 1), 0);
        dueRow("two(0, 0, 3, 1)", x, 0);
        due("two(0, 1, 3, 0)", x.two(0, 1, 3, 0), 3);
        dueRow("two(0, 1, 3, 0)", x, 1, 0, 2, 1);
        due("two(0, 4, 1, 1)", x.two(0, 4, 1, 1), -2);
        due("two(0, 1, 0, 1)", x.two(0, 1, 0, 1), -1);
        due("two(0, 1, 4, 1)", x.two(0, 1, 4, 1), -1);
        due("two(-1, 1, 0, 1)", x.two(-1, 1, 0, 1), -1);
        due("two(0, 12, 1, 1)", x.two(0, 12, 1, 1), -1);
        due("two(0, 1, 1, -1)", x.two(0, 1, 1, -1), -1);
        ClosesAfterSeventh y = with("d0-1,1;d1-2,1;d2-3,1;d3-4,1;d4-5,1;d5-6,1;p0,1;p1,1");
        due("two(0, 5, 1, 1), five", y.two(0, 5, 1, 1), 5);
        dueRow("two(0, 5, 1, 1)", y, 5, 0, 1, 2, 3, 4);
        due("two(0, 6, 1, 1), six", y.two(0, 6, 1, 1), -2);
        due("two(1, 1, 0, 5), five", y.two(1, 1, 0, 5), 5);
        dueRow("two(1, 1, 0, 5)", y, 0, 0, 1, 2, 3, 4);
        due("two(1, 1, 0, 6), six", y.two(1, 1, 0, 6), -2);
        due("two(0, 2, 1, 2), one DOOR", y.two(0, 2, 1, 2), -2);
        y.sheet(2, 2, 1, 1);
        due("two(0, 2, 1, 2), it lets two", y.two(0, 2, 1, 2), 3);
        dueRow("two(0, 2, 1, 2)", y, 2, 0, 1, 1);
        ClosesAfterSeventh z = with("d1-2,1;d2-0,1;d1>0,1;p2,1;p2,1");
        due("the least row of the first, though longer", z.two(0, 0, 1, 0), 3);
        dueRow("the least row of the first", z, 2, 0, 2, 1);
    }

    private static void keep() {
        promise = 35;
        ClosesAfterSeventh x = with("d0-1,1;d0-1,2;d0-1,0;d0-1,60");
        due("keep(0, 2, 5, 10, 5, 20)", x.keep(0, 2, 5, 10, 5, 20), 0);
        dueRow("keep(0, 2, 5, 10, 5, 20)", x, 1750, 1);
        due("keep(1, 2, 5, 10, 5, 20)", x.keep(1, 2, 5, 10, 5, 20), 0);
        dueRow("keep(1, 2, 5, 10, 5, 20)", x, 3000, 0);
        x.keep(2, 7, 5, 10, 5, 20);
        dueRow("LEFT 0", x, 0, 7);
        x.keep(0, 0, 5, 10, 5, 20);
        dueRow("no hours", x, 0, 0);
        x.keep(0, 2, 10, 10, 0, 10);
        dueRow("equal hope", x, 1000, 0);
        x.keep(3, 10, 10, 99, 0, 99);
        dueRow("the most", x, 9900000000000L, 0);
        x.keep(0, 3, 0, 1, 1, 50);
        dueRow("b seldom", x, 13550, 2);
        int[][] others = {{4, 1, 1, 1, 1, 1}, {-1, 1, 1, 1, 1, 1}, {0, 11, 1, 1, 1, 1}, {0, -1, 1, 1, 1, 1},
            {0, 1, 11, 1, 0, 1}, {0, 1, -1, 1, 1, 1}, {0, 1, 6, 1, 5, 1}, {0, 1, 1, 1, -1, 1}, {0, 1, 1, 100, 1, 100},
            {0, 1, 1, -1, 1, 1}, {0, 1, 1, 5, 1, 4}, {0, 1, 1, 5, 1, 100}, {0, 1, 1, 1, Integer.MAX_VALUE, 1}};
        for (int[] o : others) {
            due("keep" + Arrays.toString(o), x.keep(o[0], o[1], o[2], o[3], o[4], o[5]), -1);
        }
        dueRow("refused ones", x, 13550, 2);
    }

    private static void sure() {
        promise = 36;
        ClosesAfterSeventh x = with("d0-2,1;d0-1,5;d1-2,4;d0-1,5;d0-3,9;d3-4,9;d4-2,4;d5>0,60");
        due("sure(0, 2)", x.sure(0, 2), 4);
        dueRow("sure(0, 2)", x, 1, 2);
        due("sure(5, 0)", x.sure(5, 0), 60);
        dueRow("sure(5, 0)", x, 7);
        due("sure(0, 5), the wrong way", x.sure(0, 5), -2);
        dueRow("sure(0, 5)", x, 7);
        due("sure(0, 0)", x.sure(0, 0), -1);
        due("sure(0, 12)", x.sure(0, 12), -1);
        due("sure(-1, 0)", x.sure(-1, 0), -1);
        x.sheet(2, 1, 4, 0);
        due("the fewest DOORS", x.sure(0, 2), 4);
        dueRow("the fewest DOORS", x, 0);
        x.sheet(2, 20, 0, 0);
        due("all shut", x.sure(0, 2), -2);
    }

    private static void says() {
        promise = 37;
        ClosesAfterSeventh x = with("d0-1,1;d0-1,2");
        due("says(4, 0, 1)", x.says(4, 0, 1), -1);
        due("says(-1, 0, 1)", x.says(-1, 0, 1), -1);
        due("says(0, 2, 1)", x.says(0, 2, 1), -1);
        due("says(0, -1, 1)", x.says(0, -1, 1), -1);
        due("says(0, 0, 61)", x.says(0, 0, 61), -1);
        due("says(0, 0, -1)", x.says(0, 0, -1), -1);
        for (int i = 1; i <= 20; i++) {
            due("saying " + i, x.says(i % 4, i % 2, 3 * i), i);
        }
        due("one more", x.says(0, 0, 1), -1);
        due("count(5)", x.count(5), 20);
        due("trust(0) with twenty", x.trust(0), 0);
        dueRow("trust(0) with twenty", x, 5, 175);
        tellHouse(x, "p0,1");
        due("safe(0, 1, 15, 0) with twenty", x.safe(0, 1, 15, 0), 1);
    }

    private static void trust() {
        promise = 38;
        ClosesAfterSeventh x = with("d0-1,5;d0-1,9;p0,1");
        x.says(3, 0, 5);
        x.says(3, 1, 5);
        x.says(3, 0, 7);
        x.says(0, 0, 0);
        due("trust(3)", x.trust(3), 1);
        dueRow("trust(3)", x, 3, 6);
        x.pass(0, 0);
        due("trust(3), as it is now", x.trust(3), 0);
        dueRow("trust(3)", x, 3, 8);
        due("trust(1)", x.trust(1), 0);
        dueRow("trust(1)", x, 0, 0);
        due("trust(4)", x.trust(4), -1);
        due("trust(-1)", x.trust(-1), -1);
    }

    private static void safe() {
        promise = 39;
        ClosesAfterSeventh x = with("d0-1,0;d1-2,0;d0>2,9;d0-1,0;p0,1;p2,1");
        x.says(0, 0, 3);
        x.says(1, 1, 5);
        x.says(1, 0, 1);
        x.says(2, 2, 1);
        due("safe(0, 2, 3, 2)", x.safe(0, 2, 3, 2), 2);
        dueRow("safe(0, 2, 3, 2)", x, 0, 1);
        due("safe(0, 2, 3, 3)", x.safe(0, 2, 3, 3), -2);
        due("safe(0, 2, 2, 0)", x.safe(0, 2, 2, 0), 2);
        due("safe(0, 2, 1, 0)", x.safe(0, 2, 1, 0), -2);
        due("safe(0, 2, 15, 0)", x.safe(0, 2, 15, 0), 1);
        dueRow("safe(0, 2, 15, 0)", x, 2);
        due("safe(1, 0, 4, 0), the wrong way", x.safe(1, 0, 4, 0), -2);
        due("safe(1, 0, 15, 1)", x.safe(1, 0, 15, 1), 2);
        dueRow("safe(1, 0, 15, 1)", x, 1, 0);
        due("safe(0, 0, 8, 60)", x.safe(0, 0, 8, 60), 0);
        dueRow("safe(0, 0, 8, 60)", x);
        int[][] others = {{2, 0, 1, 0}, {-1, 0, 1, 0}, {0, 12, 1, 0}, {0, -1, 1, 0}, {0, 0, 0, 0}, {0, 0, 16, 0},
            {0, 0, 1, -1}, {0, 0, 1, 61}};
        for (int[] o : others) {
            due("safe" + Arrays.toString(o), x.safe(o[0], o[1], o[2], o[3]), -1);
        }
        x.says(3, 3, 2);
        x.says(3, 3, 1);
        due("the most that she says", x.safe(0, 1, 8, 1), 1);
        dueRow("the most that she says", x, 3);
    }

    private static void put() {
        promise = 40;
        ClosesAfterSeventh x = with("d0-1,5;p0,1>1");
        due("put(3)", x.put(3), false);
        due("put(-1)", x.put(-1), false);
        due("put(0)", x.put(0), true);
        x.pass(0, 0);
        due("put(2)", x.put(2), true);
        x.pass(0, 0);
        due("again(2)", x.again(2), true);
        due("LEFT", x.count(4), 4);
        due("put(2)", x.put(2), true);
        due("again(0)", x.again(0), true);
        due("LEFT", x.count(4), 5);
    }

    private static void again() {
        promise = 41;
        ClosesAfterSeventh x = with("d0-1,5@9;p0,1>1<");
        due("again(1)", x.again(1), false);
        due("again(3)", x.again(3), false);
        due("again(-1)", x.again(-1), false);
        x.hours(3);
        x.put(1);
        x.pass(0, 0);
        x.hours(10);
        tellHouse(x, "d0-1,7;p1,2>0");
        x.pass(1, 1);
        x.keeps(7);
        x.says(0, 0, 3);
        due("again(1)", x.again(1), true);
        due("the HOUR", x.count(2), 3);
        due("LEFT of the old one", x.door(0, 4), 5);
        due("LEFT of the new one", x.door(1, 4), 6);
        due("where the old one is", x.of(0, 0), 0);
        due("where the new one is", x.of(1, 0), 0);
        due("DONE", x.count(9), 2);
        due("where it has to come next", x.of(0, 6), 1);
        due("KEEP", x.count(6), 7);
        due("sayings", x.count(5), 1);
        x.goes(0, 0);
        x.put(0);
        x.goes(0, 0);
        due("DONE", x.count(9), 3);
        x.again(0);
        due("not DONE again", x.count(9), 2);
        due("back next", x.of(0, 6), 0);
        due("again(0), once more", x.again(0), true);
        x.hours(9);
        due("noon once more", x.door(0, 4), 9);
    }

    private static void count() {
        promise = 42;
        ClosesAfterSeventh x = with("d0-1,5;d0-1,0;d0-1,3;p0,1>0;p0,1;p1,1>1");
        x.hours(4);
        x.says(0, 0, 1);
        x.keeps(8);
        x.way(0, 1);
        x.sign(0);
        int[] want = {3, 3, 4, 5, 8, 1, 8, 1, 4, 5};
        for (int what = 0; what <= 9; what++) {
            due("count(" + what + ")", x.count(what), want[what]);
        }
        due("count(10)", x.count(10), -1);
        due("count(-1)", x.count(-1), -1);
    }

    private static void row() {
        promise = 43;
        ClosesAfterSeventh x = with("d0-1,5;d1-2,5;p0,1");
        dueThrow("row(0)", () -> x.row(0));
        x.way(0, 2);
        due("row(0)", x.row(0), 0);
        due("row(1)", x.row(1), 1);
        dueThrow("row(2)", () -> x.row(2));
        dueThrow("row(-1)", () -> x.row(-1));
        x.way(0, 99);
        x.bars(0, 2);
        x.may(0);
        due("row(1), told last", x.row(1), 1);
        x.way(0, 0);
        dueThrow("row(0), none told", () -> x.row(0));
    }
}
