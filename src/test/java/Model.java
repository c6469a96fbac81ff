import java.util.ArrayList;
import java.util.Arrays;
import java.util.List;
import java.util.NoSuchElementException;
import java.util.function.IntPredicate;
import java.util.function.IntUnaryOperator;
import java.util.regex.Matcher;
import java.util.regex.Pattern;

/**
 * The document told a second time, as plainly and slowly as can be, for tests alone: WAYS are found by listing all
 * of them, MANY by trying every set of ROOMS, orders by trying all, what would be by a copy of the whole.
 */
final class Model {
    static final class Door {
        int a;
        int b;
        boolean oneWay;
        int lets;
        int noon = -1;
        int left;
    }

    static final class Person {
        int where;
        int first;
        boolean stranger;
        int worth;
        int errand = -1;
        boolean back;
        boolean been;
        boolean done;
    }

    final List<Door> doors = new ArrayList<>();
    final List<Person> people = new ArrayList<>();
    final List<int[]> sayings = new ArrayList<>();
    final Model[] kept = new Model[3];
    List<Long> row = new ArrayList<>();
    String text = "";
    String price = "";
    int hour;
    int keep = 1;

    // ---- the house

    int sign(int v) {
        if (text.length() + 4 > 80) {
            return -1;
        }
        for (int i = 3; i >= 0; i--) {
            text += (char) (v >>> 8 * i & 255);
        }
        return text.length();
    }

    boolean end(int n) {
        if (n < 0 || n > text.length()) {
            return false;
        }
        text = text.substring(0, n);
        return true;
    }

    private static final String LINE =
            "(?:d[0-9]{1,2}[->][0-9]{1,2},[0-9]{1,2}(?:@[0-9]{1,2})?|[ps][0-9]{1,2},[0-9]{1,2}(?:>[0-9]{1,2}<?)?)";
    private static final Pattern HOUSE = Pattern.compile("(?:" + LINE + "(?:;" + LINE + ")*)?", Pattern.DOTALL);

    int house() {
        String all = text;
        text = "";
        String s = all.length() > 76 ? all.substring(0, 76) : all;
        int bad = firstBadSyntax(s, HOUSE);
        int good = bad < 0 ? s.length() : bad;
        int meaning = firstBadMeaning(s.substring(0, good));
        if (meaning >= 0) {
            return -1 - meaning;
        }
        if (bad >= 0) {
            return -1 - bad;
        }
        if (all.length() > 76) {
            return -1 - 76;
        }
        if (s.isEmpty()) {
            return 0;
        }
        String[] lines = s.split(";");
        for (String line : lines) {
            addLine(line);
        }
        return lines.length;
    }

    private static int firstBadSyntax(String s, Pattern pattern) {
        if (pattern.matcher(s).matches()) {
            return -1;
        }
        for (int n = 1; n <= s.length(); n++) {
            Matcher m = pattern.matcher(s.substring(0, n));
            if (!m.matches() && !m.hitEnd()) {
                return n - 1;
            }
        }
        return s.length();
    }

    private int firstBadMeaning(String s) {
        int newDoors = doors.size();
        int newPeople = people.size();
        int start = 0;
        while (start < s.length()) {
            int stop = s.indexOf(';', start);
            stop = stop < 0 ? s.length() : stop;
            char letter = s.charAt(start);
            if (letter == 'd' ? ++newDoors > 20 : ++newPeople > 8) {
                return start;
            }
            int[] most = letter == 'd' ? new int[] {11, 11, 60, 60} : new int[] {11, 99, 11};
            Matcher m = Pattern.compile("[0-9]+").matcher(s.substring(start, stop));
            int first = -1;
            for (int i = 0; m.find(); i++) {
                int v = Integer.parseInt(m.group());
                if (v > most[i] || letter == 'd' && i == 1 && v == first) {
                    return start + m.end() - 1;
                }
                first = i == 0 ? v : first;
            }
            start = stop + 1;
        }
        return -1;
    }

    private void addLine(String line) {
        String[] parts = line.substring(1).split("[^0-9]+");
        int[] v = new int[parts.length];
        for (int i = 0; i < v.length; i++) {
            v[i] = Integer.parseInt(parts[i]);
        }
        if (line.charAt(0) == 'd') {
            Door d = new Door();
            d.a = v[0];
            d.b = v[1];
            d.oneWay = line.indexOf('>') > 0;
            d.lets = v[2];
            d.left = v[2];
            d.noon = line.indexOf('@') > 0 ? v[3] : -1;
            doors.add(d);
            return;
        }
        Person p = new Person();
        p.stranger = line.charAt(0) == 's';
        p.where = v[0];
        p.first = v[0];
        p.worth = v[1];
        p.errand = line.indexOf('>') > 0 ? v[2] : -1;
        p.back = line.endsWith("<");
        p.been = p.errand == p.where;
        p.done = p.been;
        people.add(p);
    }

    int price() {
        String all = text;
        text = "";
        String s = all.length() > 40 ? all.substring(0, 40) : all;
        if (all.isEmpty()) {
            price = "";
            return 0;
        }
        Expression e = new Expression(s, new int[6]);
        try {
            e.whole();
        } catch (IllegalStateException wrong) {
            return -1 - e.at;
        }
        if (all.length() > 40) {
            return -1 - 40;
        }
        price = s;
        return 0;
    }

    /** Works an EXPRESSION out as it reads it, from the top down. */
    static final class Expression {
        final String s;
        final int[] named;
        int at;

        Expression(String s, int[] named) {
            this.s = s;
            this.named = named;
        }

        int whole() {
            int v = compare(0);
            if (at < s.length()) {
                throw new IllegalStateException();
            }
            return v;
        }

        private char now() {
            return at < s.length() ? s.charAt(at) : (char) 999;
        }

        private int compare(int deep) {
            int x = sum(deep);
            char c = now();
            if (c != '<' && c != '>' && c != '=') {
                return x;
            }
            at++;
            int y = sum(deep);
            return (c == '<' ? x < y : c == '>' ? x > y : x == y) ? 1 : 0;
        }

        private int sum(int deep) {
            int x = product(deep);
            while (now() == '+' || now() == '-') {
                boolean plus = now() == '+';
                at++;
                int y = product(deep);
                x = plus ? x + y : x - y;
            }
            return x;
        }

        private int product(int deep) {
            int x = thing(deep);
            while (now() == '*') {
                at++;
                x *= thing(deep);
            }
            return x;
        }

        private int thing(int deep) {
            char c = now();
            if (c == '-') {
                at++;
                return -thing(deep);
            }
            if (c == '(') {
                if (deep == 4) {
                    throw new IllegalStateException();
                }
                at++;
                int x = compare(deep + 1);
                if (now() != ')') {
                    throw new IllegalStateException();
                }
                at++;
                return x;
            }
            int name = "lmohwk".indexOf(c);
            if (name >= 0) {
                at++;
                return named[name];
            }
            int from = at;
            while (at - from < 3 && now() >= '0' && now() <= '9') {
                at++;
            }
            if (at == from) {
                throw new IllegalStateException();
            }
            return Integer.parseInt(s.substring(from, at));
        }
    }

    int door(int door, int what) {
        if (!isDoor(door) || what < 0 || what > 5) {
            throw new NoSuchElementException();
        }
        Door d = doors.get(door);
        return new int[] {d.a, d.b, d.oneWay ? 1 : 0, d.lets, d.left, d.noon}[what];
    }

    int of(int person, int what) {
        if (!isPerson(person) || what < 0 || what > 7) {
            throw new NoSuchElementException();
        }
        Person p = people.get(person);
        return new int[] {p.where, p.stranger ? 1 : 0, p.worth, p.errand, p.back ? 1 : 0, p.done ? 1 : 0, next(p),
            p.first}[what];
    }

    int sheet(int kind, int n, int f, int step) {
        if (kind < 0 || kind > 3 || n > 20) {
            return -1;
        }
        if (kind == 3) {
            for (Door d : doors) {
                d.left = d.lets;
            }
            return -3;
        }
        if (n < 0) {
            return -2;
        }
        int v = f;
        for (int i = 0; i < doors.size(); i++) {
            int told = kind == 0 ? (byte) v : kind == 1 ? (short) v : v;
            doors.get(i).left = i >= n ? doors.get(i).lets : told < 0 ? 0 : told > 60 ? 60 : told;
            v += step;
        }
        return count(4);
    }

    int keeps(int v) {
        if (v < 0 || v > 59) {
            return -1;
        }
        int was = keep;
        keep = v;
        return was;
    }

    int hours(int n) {
        if (n < 0 || n > 23 || hour + n > 23) {
            return -1;
        }
        for (int i = 0; i < n; i++) {
            hour++;
            for (Door d : doors) {
                if (hour == 12 && d.noon >= 0) {
                    d.left = d.noon;
                }
            }
        }
        return hour;
    }

    // ---- one by one

    int pass(int person, int door) {
        if (!isPerson(person) || !isDoor(door)) {
            return -1;
        }
        Person p = people.get(person);
        int to = through(door, p.where);
        if (to < 0 || doors.get(door).left == 0) {
            return -2;
        }
        step(p, door);
        return doors.get(door).left;
    }

    private void step(Person p, int door) {
        Door d = doors.get(door);
        p.where = through(door, p.where);
        d.left -= p.stranger ? 0 : 1;
        if (p.errand < 0) {
            return;
        }
        p.been |= p.where == p.errand;
        p.done |= p.been && (!p.back || p.where == p.first);
    }

    int way(int person, int room) {
        if (!isPerson(person) || !isRoom(room)) {
            return -1;
        }
        return told(best(people.get(person).where, room, this::isOpen, d -> 0));
    }

    int may(int person) {
        if (!isPerson(person)) {
            return -1;
        }
        int bits = 0;
        for (int room = 0; room < 12; room++) {
            bits |= ways(people.get(person).where, room, this::isOpen).isEmpty() ? 0 : 1 << room;
        }
        return bits;
    }

    int goes(int person, int plan) {
        if (!isPerson(person) || plan < 0 || plan > 3) {
            return -1;
        }
        Person p = people.get(person);
        if (next(p) < 0) {
            row = new ArrayList<>();
            return 0;
        }
        int[] found = planned(person, plan);
        if (found != null) {
            for (int d : found) {
                step(p, d);
            }
        }
        return told(found);
    }

    int priced(int person, int door) {
        return isPerson(person) && isDoor(door) ? priceOf(person, door) : -1;
    }

    int fro(int person, int room) {
        if (!isPerson(person) || !isRoom(room) || people.get(person).where == room) {
            return -1;
        }
        Model m = copy();
        Person p = m.people.get(person);
        int start = p.where;
        int legs = 0;
        long passed = 0;
        while (legs < 198) {
            int[] w = m.best(p.where, p.where == start ? room : start, m::isOpen, d -> 0);
            if (w == null) {
                break;
            }
            for (int d : w) {
                m.step(p, d);
            }
            passed += w.length;
            legs++;
        }
        tell(p.where == start ? 0 : 1, passed);
        return legs / 2;
    }

    int crowd() {
        int best = -1;
        int most = 0;
        int could = 0;
        for (int d = 0; d < doors.size(); d++) {
            int n = 0;
            int counting = 0;
            for (Person p : people) {
                if (onWay(p, d)) {
                    n++;
                    counting += p.stranger ? 0 : 1;
                }
            }
            if (n > most) {
                best = d;
                most = n;
                could = n - counting + Math.min(counting, doors.get(d).left);
            }
        }
        if (best < 0) {
            return -2;
        }
        tell(most, could);
        return best;
    }

    // ---- how many

    int many(int from, int to) {
        if (!isRoom(from) || !isRoom(to) || from == to) {
            return -1;
        }
        int[] cut = cuts(lefts());
        int least = leastCut(cut, from, to);
        int reached = 4095;
        for (int x = 0; x < 4096; x++) {
            if (bit(x, from) && !bit(x, to) && cut[x] == least) {
                reached &= x;
            }
        }
        long bits = 0;
        for (int d = 0; d < doors.size(); d++) {
            bits |= doors.get(d).left > 0 && leads(doors.get(d), reached) ? 1 << d : 0;
        }
        tell(bits);
        return least;
    }

    int bars(int from, int to) {
        if (!isRoom(from) || !isRoom(to) || from == to) {
            return -1;
        }
        int[] ones = lefts();
        for (int d = 0; d < ones.length; d++) {
            ones[d] = ones[d] > 0 ? 1 : 0;
        }
        return leastCut(cuts(ones), from, to);
    }

    int counts(int from, int to, int door) {
        if (!isRoom(from) || !isRoom(to) || from == to || !isDoor(door)) {
            return -1;
        }
        int[] lefts = lefts();
        int now = leastCut(cuts(lefts), from, to);
        int left = lefts[door];
        lefts[door] = left + 1;
        tell(leastCut(cuts(lefts), from, to) - now);
        lefts[door] = 0;
        return now - leastCut(cuts(lefts), from, to);
    }

    int more(int n) {
        if (n < 2 || n > 12) {
            return -1;
        }
        if (doors.isEmpty()) {
            return -2;
        }
        int[] lefts = lefts();
        int best = -1;
        long most = -1;
        for (int d = 0; d < lefts.length; d++) {
            lefts[d]++;
            long sum = sumOfPairs(lefts, n);
            lefts[d]--;
            if (sum > most) {
                most = sum;
                best = d;
            }
        }
        tell(most, sumOfPairs(lefts, n));
        return best;
    }

    private long sumOfPairs(int[] lefts, int n) {
        int[] cut = cuts(lefts);
        long sum = 0;
        for (int from = 0; from < n; from++) {
            for (int to = 0; to < n; to++) {
                sum += from == to ? 0 : leastCut(cut, from, to);
            }
        }
        return sum;
    }

    int build(int from, int to, int n, int v) {
        if (!isRoom(from) || !isRoom(to) || from == to || n < 2 || n > 12 || v < 1 || v > 60) {
            return -1;
        }
        int best = -1;
        for (int a = 0; a < n; a++) {
            for (int b = a + 1; b < n; b++) {
                Model m = copy();
                Door d = new Door();
                d.a = a;
                d.b = b;
                d.left = v;
                m.doors.add(d);
                int most = leastCut(m.cuts(m.lefts()), from, to);
                if (most > best) {
                    best = most;
                    tell(a, b);
                }
            }
        }
        return best;
    }

    int never(int from, int to, int k) {
        if (!isRoom(from) || !isRoom(to) || from == to || k < 0 || k > 99) {
            return -1;
        }
        int[] lefts = lefts();
        for (int v = 0; v <= 60; v++) {
            Arrays.fill(lefts, v);
            if (leastCut(cuts(lefts), from, to) >= k) {
                return v;
            }
        }
        return -2;
    }

    // ---- home, a fire

    int home(int room) {
        return isRoom(room) ? rescued(1 << room) : -1;
    }

    int fire(int rooms) {
        return rooms >= 1 && rooms <= 4095 ? rescued(rooms) : -1;
    }

    private int rescued(int goals) {
        int[] cut = cuts(lefts());
        int most = 0;
        for (int who = 0; who < 1 << people.size(); who++) {
            if (Integer.bitCount(who) > most && canAll(who, goals, cut)) {
                most = Integer.bitCount(who);
            }
        }
        int chosen = 0;
        for (int p = 0; p < people.size(); p++) {
            chosen |= canAll(chosen | 1 << p, goals, cut) ? 1 << p : 0;
        }
        if (Integer.bitCount(chosen) != most) {
            throw new AssertionError("one by one they are not the most");
        }
        tell(chosen);
        return most;
    }

    // All can come there, if out of no set of ROOMS without a goal more have to go than its DOORS let.
    private boolean canAll(int who, int goals, int[] cut) {
        int[] in = new int[12];
        for (int p = 0; p < people.size(); p++) {
            in[people.get(p).where] += bit(who, p) ? 1 : 0;
        }
        for (int x = 0; x < 4096; x++) {
            if ((x & goals) == 0) {
                int n = 0;
                for (int room = 0; room < 12; room++) {
                    n += bit(x, room) ? in[room] : 0;
                }
                if (n > cut[x]) {
                    return false;
                }
            }
        }
        return true;
    }

    int late(int room) {
        if (!isRoom(room)) {
            return -1;
        }
        int bits = 0;
        for (int p = 0; p < people.size(); p++) {
            for (int q = 0; q < people.size(); q++) {
                Model m = copy();
                int[] ahead = best(people.get(q).where, room, this::isOpen, d -> 0);
                if (p == q || !m.canCome(p, room) || ahead == null) {
                    continue;
                }
                for (int d : ahead) {
                    m.step(m.people.get(q), d);
                }
                bits |= m.canCome(p, room) ? 0 : 1 << p;
            }
        }
        return bits;
    }

    private boolean canCome(int person, int room) {
        return !ways(people.get(person).where, room, this::isOpen).isEmpty();
    }

    // ---- a day by plans

    int day(int plan) {
        if (plan < 0 || plan > 3) {
            return -1;
        }
        List<Integer> all = new ArrayList<>();
        for (int p = 0; p < people.size(); p++) {
            all.add(p);
        }
        long passed = inOrder(all, plan);
        int failed = 0;
        for (int p = 0; p < people.size(); p++) {
            failed |= people.get(p).errand >= 0 && !people.get(p).done ? 1 << p : 0;
        }
        tell(worthDone(), passed, failed);
        return Integer.bitCount(count(9));
    }

    private long inOrder(List<Integer> who, int plan) {
        long passed = 0;
        for (int p : who) {
            for (int n = goes(p, plan); n > 0; n = goes(p, plan)) {
                passed += n;
            }
        }
        return passed;
    }

    private long worthDone() {
        long sum = 0;
        for (Person p : people) {
            sum += p.done ? p.worth : 0;
        }
        return sum;
    }

    int would(int plan) {
        if (plan < 0 || plan > 3) {
            return -1;
        }
        Model m = copy();
        int answer = m.day(plan);
        row = m.row;
        return answer;
    }

    int plan() {
        int best = -1;
        long[] bestKey = null;
        for (int plan = 0; plan < 4; plan++) {
            Model m = copy();
            m.day(plan);
            long[] key = {-m.row.get(0), m.row.get(1)};
            if (bestKey == null || Arrays.compare(key, bestKey) < 0) {
                best = plan;
                bestKey = key;
            }
        }
        tell(-bestKey[0], bestKey[1]);
        return best;
    }

    int order(int plan) {
        if (plan < 0 || plan > 3) {
            return -1;
        }
        List<Integer> busy = busy();
        if (busy.size() > 6) {
            return -3;
        }
        List<List<Integer>> all = new ArrayList<>();
        permute(busy, new ArrayList<>(), all);
        long[] bestKey = null;
        for (List<Integer> order : all) {
            Model m = copy();
            long passed = m.inOrder(order, plan);
            long[] key = new long[2 + order.size()];
            key[0] = -m.worthDone();
            key[1] = passed;
            for (int i = 0; i < order.size(); i++) {
                key[2 + i] = order.get(i);
            }
            if (bestKey == null || Arrays.compare(key, bestKey) < 0) {
                bestKey = key;
            }
        }
        tell(Arrays.copyOfRange(bestKey, 1, bestKey.length));
        return (int) -bestKey[0];
    }

    private List<Integer> busy() {
        List<Integer> busy = new ArrayList<>();
        for (int p = 0; p < people.size(); p++) {
            if (next(people.get(p)) >= 0) {
                busy.add(p);
            }
        }
        return busy;
    }

    private static void permute(List<Integer> from, List<Integer> begun, List<List<Integer>> out) {
        if (begun.size() == from.size()) {
            out.add(new ArrayList<>(begun));
        }
        for (Integer x : from) {
            if (!begun.contains(x)) {
                begun.add(x);
                permute(from, begun, out);
                begun.remove(begun.size() - 1);
            }
        }
    }

    int leave(int plan) {
        if (plan < 0 || plan > 3) {
            return -1;
        }
        int best = -1;
        long most = -1;
        for (int left : busy()) {
            List<Integer> others = busy();
            others.remove((Integer) left);
            Model m = copy();
            m.inOrder(others, plan);
            if (m.worthDone() > most) {
                most = m.worthDone();
                best = left;
            }
        }
        if (best < 0) {
            return -2;
        }
        tell(most);
        return best;
    }

    // ---- for several, two at once

    int tour(int person, int rooms) {
        if (!isPerson(person) || rooms < 0 || rooms > 4095 || Integer.bitCount(rooms) > 6) {
            return -1;
        }
        List<Integer> list = new ArrayList<>();
        for (int room = 0; room < 12; room++) {
            if (bit(rooms, room)) {
                list.add(room);
            }
        }
        int[][] far = new int[12][12];
        for (int from = 0; from < 12; from++) {
            for (int to = 0; to < 12; to++) {
                int[] w = list.contains(to) ? best(from, to, this::isOpen, d -> 0) : null;
                far[from][to] = w == null ? 1000 : w.length;
            }
        }
        List<List<Integer>> all = new ArrayList<>();
        permute(list, new ArrayList<>(), all);
        long[] bestKey = null;
        for (List<Integer> order : all) {
            long[] key = new long[1 + order.size()];
            int at = people.get(person).where;
            for (int i = 0; i < order.size(); i++) {
                key[0] += far[at][order.get(i)];
                at = order.get(i);
                key[1 + i] = at;
            }
            if (bestKey == null || Arrays.compare(key, bestKey) < 0) {
                bestKey = key;
            }
        }
        if (bestKey[0] >= 1000) {
            return -2;
        }
        tell(Arrays.copyOfRange(bestKey, 1, bestKey.length));
        return (int) bestKey[0];
    }

    int send(int rooms) {
        if (people.isEmpty() || rooms < 0 || rooms > 4095 || Integer.bitCount(rooms) > 6) {
            return -1;
        }
        int best = -1;
        int fewest = 9999;
        for (int p = 0; p < people.size(); p++) {
            int n = copy().tour(p, rooms);
            if (n >= 0 && n < fewest) {
                fewest = n;
                best = p;
            }
        }
        if (best < 0) {
            return -2;
        }
        tell(fewest);
        return best;
    }

    int two(int one, int room, int other, int room2) {
        if (!isPerson(one) || !isPerson(other) || one == other || !isRoom(room) || !isRoom(room2)) {
            return -1;
        }
        Person p = people.get(one);
        Person q = people.get(other);
        int[] bestFirst = null;
        int[] bestSecond = null;
        for (int[] first : ways(p.where, room, this::isOpen)) {
            for (int[] second : ways(q.where, room2, this::isOpen)) {
                if (first.length > 5 || second.length > 5 || tooOften(p, first, q, second)) {
                    continue;
                }
                int by = bestFirst == null ? -1
                        : first.length + second.length - bestFirst.length - bestSecond.length;
                by = by == 0 ? Arrays.compare(first, bestFirst) : by;
                by = by == 0 ? Arrays.compare(second, bestSecond) : by;
                if (by < 0) {
                    bestFirst = first;
                    bestSecond = second;
                }
            }
        }
        if (bestFirst == null) {
            return -2;
        }
        row = new ArrayList<>();
        row.add((long) bestFirst.length);
        for (int d : bestFirst) {
            row.add((long) d);
        }
        for (int d : bestSecond) {
            row.add((long) d);
        }
        return bestFirst.length + bestSecond.length;
    }

    private boolean tooOften(Person p, int[] first, Person q, int[] second) {
        int[] often = new int[doors.size()];
        for (int d : first) {
            often[d] += p.stranger ? 0 : 1;
        }
        for (int d : second) {
            often[d] += q.stranger ? 0 : 1;
        }
        for (int d = 0; d < often.length; d++) {
            if (often[d] > doors.get(d).left) {
                return true;
            }
        }
        return false;
    }

    // ---- what to keep

    int keep(int door, int n, int c, int a, int d, int b) {
        if (!isDoor(door) || n < 0 || n > 10 || c < 0 || c > 10 || d < 0 || d > 10 || c + d > 10) {
            return -1;
        }
        if (a < 0 || a > 99 || b < a || b > 99) {
            return -1;
        }
        int left = doors.get(door).left;
        int not = 0;
        long parts = 1;
        for (int behind = 0; behind < n; behind++) {
            boolean better = left == 0
                    || hope(behind, left, c, a, d, b) > a * parts + hope(behind, left - 1, c, a, d, b);
            not += better ? 1 : 0;
            parts *= 10;
        }
        tell(hope(n, left, c, a, d, b), not);
        return 0;
    }

    private static long hope(int n, int left, int c, int a, int d, int b) {
        if (n == 0 || left == 0) {
            return 0;
        }
        long parts = 1;
        for (int i = 1; i < n; i++) {
            parts *= 10;
        }
        long same = hope(n - 1, left, c, a, d, b);
        long less = hope(n - 1, left - 1, c, a, d, b);
        long sum = 0;
        for (int i = 0; i < 10; i++) {
            sum += i < c ? Math.max(same, a * parts + less) : i < c + d ? Math.max(same, b * parts + less) : same;
        }
        return sum;
    }

    int sure(int from, int to) {
        if (!isRoom(from) || !isRoom(to) || from == to) {
            return -1;
        }
        int most = 0;
        int[] found = null;
        for (int[] w : ways(from, to, this::isOpen)) {
            int least = 99;
            for (int d : w) {
                least = Math.min(least, doors.get(d).left);
            }
            boolean shorter = found != null && least == most && (w.length < found.length
                    || w.length == found.length && Arrays.compare(w, found) < 0);
            if (least > most || shorter) {
                most = least;
                found = w;
            }
        }
        return found == null ? -2 : told(found) >= 0 ? most : 0;
    }

    // ---- who says counts

    int says(int maid, int door, int number) {
        if (maid < 0 || maid > 3 || !isDoor(door) || number < 0 || number > 60 || sayings.size() == 20) {
            return -1;
        }
        sayings.add(new int[] {maid, door, number});
        return sayings.size();
    }

    int trust(int maid) {
        if (maid < 0 || maid > 3) {
            return -1;
        }
        int right = 0;
        int n = 0;
        int off = 0;
        for (int[] s : sayings) {
            if (s[0] == maid) {
                int left = doors.get(s[1]).left;
                n++;
                right += left == s[2] ? 1 : 0;
                off += Math.abs(left - s[2]);
            }
        }
        tell(n, off);
        return right;
    }

    int safe(int person, int room, int maids, int e) {
        if (!isPerson(person) || !isRoom(room) || maids < 1 || maids > 15 || e < 0 || e > 60) {
            return -1;
        }
        int[] atLeast = new int[doors.size()];
        for (int[] s : sayings) {
            if (bit(maids, s[0])) {
                atLeast[s[1]] = Math.max(atLeast[s[1]], s[2] - e);
            }
        }
        return told(best(people.get(person).where, room, d -> atLeast[d] > 0, d -> 0));
    }

    // ---- kept

    boolean put(int i) {
        if (i < 0 || i > 2) {
            return false;
        }
        kept[i] = copy();
        return true;
    }

    boolean again(int i) {
        if (i < 0 || i > 2 || kept[i] == null) {
            return false;
        }
        for (int d = 0; d < kept[i].doors.size(); d++) {
            doors.get(d).left = kept[i].doors.get(d).left;
        }
        for (int p = 0; p < kept[i].people.size(); p++) {
            people.get(p).where = kept[i].people.get(p).where;
            people.get(p).been = kept[i].people.get(p).been;
            people.get(p).done = kept[i].people.get(p).done;
        }
        hour = kept[i].hour;
        return true;
    }

    int count(int what) {
        int open = 0;
        int sum = 0;
        int done = 0;
        for (int d = 0; d < doors.size(); d++) {
            open |= isOpen(d) ? 1 << d : 0;
            sum += doors.get(d).left;
        }
        for (int p = 0; p < people.size(); p++) {
            done |= people.get(p).done ? 1 << p : 0;
        }
        int[] all = {doors.size(), people.size(), hour, open, sum, sayings.size(), keep, row.size(), text.length(),
            done};
        return what < 0 || what > 9 ? -1 : all[what];
    }

    long row(int i) {
        if (i < 0 || i >= row.size()) {
            throw new NoSuchElementException();
        }
        return row.get(i);
    }

    // ---- what they share

    Model copy() {
        Model m = new Model();
        for (Door d : doors) {
            Door e = new Door();
            e.a = d.a;
            e.b = d.b;
            e.oneWay = d.oneWay;
            e.lets = d.lets;
            e.noon = d.noon;
            e.left = d.left;
            m.doors.add(e);
        }
        for (Person p : people) {
            Person q = new Person();
            q.where = p.where;
            q.first = p.first;
            q.stranger = p.stranger;
            q.worth = p.worth;
            q.errand = p.errand;
            q.back = p.back;
            q.been = p.been;
            q.done = p.done;
            m.people.add(q);
        }
        m.sayings.addAll(sayings);
        m.price = price;
        m.hour = hour;
        m.keep = keep;
        return m;
    }

    private void tell(long... numbers) {
        row = new ArrayList<>();
        for (long n : numbers) {
            row.add(n);
        }
    }

    private int told(int[] found) {
        if (found == null) {
            return -2;
        }
        row = new ArrayList<>();
        for (int d : found) {
            row.add((long) d);
        }
        return found.length;
    }

    private static int next(Person p) {
        return p.errand < 0 || p.done ? -1 : p.been ? p.first : p.errand;
    }

    private boolean onWay(Person p, int door) {
        int[] w = next(p) < 0 ? null : best(p.where, next(p), this::isOpen, d -> 0);
        boolean on = false;
        for (int i = 0; w != null && i < w.length; i++) {
            on |= w[i] == door;
        }
        return on;
    }

    private int priceOf(int person, int door) {
        if (price.isEmpty()) {
            return 1;
        }
        int k = 0;
        for (int p = 0; p < people.size(); p++) {
            k += p != person && onWay(people.get(p), door) ? 1 : 0;
        }
        Door d = doors.get(door);
        int[] named = {d.left, d.lets, d.oneWay ? 1 : 0, hour, people.get(person).worth, k};
        int v = new Expression(price, named).whole();
        return v < 1 ? 1 : v > 9999 ? 9999 : v;
    }

    private int[] planned(int person, int plan) {
        Person p = people.get(person);
        if (plan == 2) {
            return best(p.where, next(p), d -> doors.get(d).left > keep, d -> 0);
        }
        int[] costs = new int[doors.size()];
        for (int d = 0; d < costs.length; d++) {
            costs[d] = plan == 0 ? 0 : plan == 1 ? 61 - doors.get(d).left : priceOf(person, d);
        }
        return best(p.where, next(p), this::isOpen, d -> costs[d]);
    }

    private int[] best(int from, int to, IntPredicate open, IntUnaryOperator cost) {
        int[] best = null;
        long[] bestKey = null;
        for (int[] w : ways(from, to, open)) {
            long[] key = new long[2 + w.length];
            for (int i = 0; i < w.length; i++) {
                key[0] += cost.applyAsInt(w[i]);
                key[2 + i] = w[i];
            }
            key[1] = w.length;
            if (bestKey == null || Arrays.compare(key, bestKey) < 0) {
                best = w;
                bestKey = key;
            }
        }
        return best;
    }

    private List<int[]> ways(int from, int to, IntPredicate open) {
        List<int[]> out = new ArrayList<>();
        collect(from, to, open, 1 << from, new int[12], 0, out);
        return out;
    }

    private void collect(int at, int to, IntPredicate open, int seen, int[] begun, int n, List<int[]> out) {
        if (at == to) {
            out.add(Arrays.copyOf(begun, n));
            return;
        }
        for (int d = 0; d < doors.size(); d++) {
            int next = open.test(d) ? through(d, at) : -1;
            if (next >= 0 && !bit(seen, next)) {
                begun[n] = d;
                collect(next, to, open, seen | 1 << next, begun, n + 1, out);
            }
        }
    }

    private int through(int door, int room) {
        Door d = doors.get(door);
        return d.a == room ? d.b : d.b == room && !d.oneWay ? d.a : -1;
    }

    private boolean isOpen(int door) {
        return doors.get(door).left > 0;
    }

    private int[] lefts() {
        int[] lefts = new int[doors.size()];
        for (int d = 0; d < lefts.length; d++) {
            lefts[d] = doors.get(d).left;
        }
        return lefts;
    }

    // How many the DOORS out of each set of ROOMS let through.
    private int[] cuts(int[] lefts) {
        int[] cut = new int[4096];
        for (int x = 0; x < 4096; x++) {
            for (int d = 0; d < lefts.length; d++) {
                cut[x] += leads(doors.get(d), x) ? lefts[d] : 0;
            }
        }
        return cut;
    }

    private static boolean leads(Door d, int x) {
        return bit(x, d.a) && !bit(x, d.b) || !d.oneWay && bit(x, d.b) && !bit(x, d.a);
    }

    private static int leastCut(int[] cut, int from, int to) {
        int least = Integer.MAX_VALUE;
        for (int x = 0; x < 4096; x++) {
            if (bit(x, from) && !bit(x, to)) {
                least = Math.min(least, cut[x]);
            }
        }
        return least;
    }

    private static boolean bit(int bits, int i) {
        return (bits >> i & 1) == 1;
    }

    private boolean isDoor(int door) {
        return door >= 0 && door < doors.size();
    }

    private boolean isPerson(int person) {
        return person >= 0 && person < people.size();
    }

    private static boolean isRoom(int room) {
        return room >= 0 && room < 12;
    }
}
