import java.util.Arrays;
import java.util.NoSuchElementException;

/**
 * A house of ROOMS, DOORS that let so many through and shut, and PEOPLE with errands. The document's numbered
 * promises say what each call answers. Every row is made with the object, so that no call makes anything.
 */
public final class ClosesAfterSeventh {
    public static final int NONE = -1;

    private static final int CANNOT = -2;
    private static final int TOO_MANY = -3;
    private static final int MISSING = -3;
    private static final int ROOMS = 12;
    private static final int ALL_ROOMS = 4095;
    private static final int DOORS = 20;
    private static final int PEOPLE = 8;
    private static final int MOST_LEFT = 60;
    private static final int MOST_WORTH = 99;
    private static final int LAST_HOUR = 23;
    private static final int NOON = 12;
    private static final int LONGEST_TEXT = 80;
    private static final int LONGEST_ROW = 16;
    private static final int PLANS = 4;
    private static final int STRAIGHT = 0;
    private static final int SPARE = 1;
    private static final int KEEPING = 2;
    private static final int PRICED = 3;
    private static final int MAIDS = 4;
    private static final int SAYINGS = 20;
    private static final int KEPT = 3;
    // The place behind those that a caller may use: what is only tried is undone from here.
    private static final int TRIAL = 3;
    private static final int MOST_WATCHED = 10;
    private static final int CASES = 10;
    private static final int MOST_WANTED = 99;

    private final char[] text = new char[LONGEST_TEXT];
    private int textSize;
    private final long[] row = new long[LONGEST_ROW];
    private int rowSize;
    private final int[] sayingMaid = new int[SAYINGS];
    private final int[] sayingDoor = new int[SAYINGS];
    private final int[] sayingNumber = new int[SAYINGS];
    private int sayings;
    private final long[] hopes = new long[MOST_LEFT + 1];
    private final Kept[] kept = new Kept[KEPT + 1];
    private final Doors doors = new Doors();
    private final People people = new People();
    private final HouseReader reader = new HouseReader(text, doors, people);
    private final Price price = new Price(text);
    private final Routes routes = new Routes(doors);
    private final Flow flow = new Flow();
    private final Walks walks = new Walks(doors, people, routes, price);
    private final Orders orders = new Orders(doors, people, walks);
    private final Tours tours = new Tours(routes);
    private final Pairs pairs = new Pairs(doors, routes);

    public ClosesAfterSeventh() {
        for (int i = 0; i <= KEPT; i++) {
            kept[i] = new Kept();
        }
    }

    // ---- the house

    public int sign(int v) {
        if (textSize + 4 > LONGEST_TEXT) {
            return NONE;
        }
        for (int shift = 24; shift >= 0; shift -= 8) {
            text[textSize] = (char) ((v >> shift) & 255);
            textSize++;
        }
        return textSize;
    }

    public boolean end(int n) {
        if (n < 0 || n > textSize) {
            return false;
        }
        textSize = n;
        return true;
    }

    public int house() {
        int answer = reader.read(textSize);
        textSize = 0;
        return answer;
    }

    public int price() {
        int answer = price.read(textSize);
        textSize = 0;
        return answer;
    }

    public int door(int door, int what) throws NoSuchElementException {
        if (!doors.has(door) || what < 0 || what > 5) {
            throw new NoSuchElementException("no such DOOR, or another what");
        }
        switch (what) {
            case 0:
                return doors.a[door];
            case 1:
                return doors.b[door];
            case 2:
                return asNumber(doors.oneWay[door]);
            case 3:
                return doors.lets[door];
            case 4:
                return doors.left[door];
            default:
                return doors.noon[door];
        }
    }

    public int of(int person, int what) throws NoSuchElementException {
        if (!people.has(person) || what < 0 || what > 7) {
            throw new NoSuchElementException("none such of PEOPLE, or another what");
        }
        switch (what) {
            case 0:
                return people.where[person];
            case 1:
                return asNumber(people.stranger[person]);
            case 2:
                return people.worth[person];
            case 3:
                return people.errand[person];
            case 4:
                return asNumber(people.back[person]);
            case 5:
                return asNumber(people.done[person]);
            case 6:
                return people.goal(person);
            default:
                return people.first[person];
        }
    }

    public int sheet(int kind, int n, int f, int step) {
        if (kind < 0 || kind > 3 || n > DOORS) {
            return NONE;
        }
        if (kind < 3 && n < 0) {
            return CANNOT;
        }
        int told = kind < 3 ? n : 0;
        for (int d = 0; d < doors.size; d++) {
            doors.left[d] = d < told ? sheetEntry(kind, f + d * step) : doors.lets[d];
        }
        return kind < 3 ? doors.sumLeft() : MISSING;
    }

    public int keeps(int v) {
        if (v < 0 || v >= MOST_LEFT) {
            return NONE;
        }
        int before = walks.keepBack;
        walks.keepBack = v;
        return before;
    }

    public int hours(int n) {
        if (n < 0 || n > LAST_HOUR || doors.hour + n > LAST_HOUR) {
            return NONE;
        }
        doors.goOn(n);
        return doors.hour;
    }

    // ---- one by one

    public int pass(int person, int door) {
        if (!people.has(person) || !doors.has(door)) {
            return NONE;
        }
        if (doors.left[door] <= 0 || doors.beyond(door, people.where[person]) == NONE) {
            return CANNOT;
        }
        walks.goThrough(person, door);
        return doors.left[door];
    }

    public int way(int person, int room) {
        if (!people.has(person) || !isRoom(room)) {
            return NONE;
        }
        routes.useAbove(0);
        return tellRoute(routes.find(people.where[person], room));
    }

    public int may(int person) {
        return people.has(person) ? routes.reach(people.where[person]) : NONE;
    }

    public int goes(int person, int plan) {
        if (!people.has(person) || !isPlan(plan)) {
            return NONE;
        }
        if (!people.isBusy(person)) {
            rowSize = 0;
            return 0;
        }
        return tellRoute(walks.leg(person, plan));
    }

    public int priced(int person, int door) {
        if (!people.has(person) || !doors.has(door)) {
            return NONE;
        }
        walks.countWays(person);
        walks.setPrice(person, door);
        return price.workOut();
    }

    public int fro(int person, int room) {
        if (!people.has(person) || !isRoom(room) || room == people.where[person]) {
            return NONE;
        }
        kept[TRIAL].take(doors, people);
        int times = walks.toAndFro(person, room);
        kept[TRIAL].giveBack(doors, people);
        rowSize = 0;
        tell(asNumber(walks.stranded));
        tell(walks.passed);
        return times;
    }

    public int crowd() {
        walks.countWays(NONE);
        int best = NONE;
        for (int d = 0; d < doors.size; d++) {
            if (walks.onWay[d] > (best == NONE ? 0 : walks.onWay[best])) {
                best = d;
            }
        }
        if (best == NONE) {
            return CANNOT;
        }
        int strangers = walks.strangersOnWay[best];
        rowSize = 0;
        tell(walks.onWay[best]);
        tell(strangers + Math.min(doors.left[best], walks.onWay[best] - strangers));
        return best;
    }

    // ---- how many

    public int many(int from, int to) {
        if (!areUnlikeRooms(from, to)) {
            return NONE;
        }
        flow.load(doors);
        int most = flow.greatest(from, to);
        rowSize = 0;
        tell(flow.doorsOutOfReached());
        return most;
    }

    public int bars(int from, int to) {
        if (!areUnlikeRooms(from, to)) {
            return NONE;
        }
        flow.load(doors);
        for (int d = 0; d < doors.size; d++) {
            flow.lets[d] = Math.min(doors.left[d], 1);
        }
        return flow.greatest(from, to);
    }

    public int counts(int from, int to, int door) {
        if (!areUnlikeRooms(from, to) || !doors.has(door)) {
            return NONE;
        }
        flow.load(doors);
        int now = flow.greatest(from, to);
        flow.lets[door] = 0;
        int without = flow.greatest(from, to);
        flow.lets[door] = doors.left[door] + 1;
        int with = flow.greatest(from, to);
        rowSize = 0;
        tell(with - now);
        return now - without;
    }

    public int more(int n) {
        if (n < 2 || n > ROOMS) {
            return NONE;
        }
        if (doors.size == 0) {
            return CANNOT;
        }
        flow.load(doors);
        int sum = flow.sumOfPairs(n);
        int best = 0;
        for (int d = 1; d < doors.size; d++) {
            if (flow.gain[d] > flow.gain[best]) {
                best = d;
            }
        }
        rowSize = 0;
        tell(sum + flow.gain[best]);
        tell(sum);
        return best;
    }

    public int build(int from, int to, int n, int v) {
        if (!areUnlikeRooms(from, to) || n < 2 || n > ROOMS || v < 1 || v > MOST_LEFT) {
            return NONE;
        }
        flow.load(doors);
        int best = NONE;
        for (int a = 0; a < n; a++) {
            for (int b = a + 1; b < n; b++) {
                flow.lay(a, b, v);
                int most = flow.greatest(from, to);
                if (most > best) {
                    best = most;
                    rowSize = 0;
                    tell(a);
                    tell(b);
                }
            }
        }
        return best;
    }

    public int never(int from, int to, int k) {
        if (!areUnlikeRooms(from, to) || k < 0 || k > MOST_WANTED) {
            return NONE;
        }
        if (k == 0) {
            return 0;
        }
        flow.load(doors);
        Arrays.fill(flow.lets, 1);
        // With the same number at all DOORS MANY is that number times what it is with 1 at each.
        int withOne = flow.greatest(from, to);
        if (withOne <= 0) {
            return CANNOT;
        }
        int least = (k + withOne - 1) / withOne;
        return least <= MOST_LEFT ? least : CANNOT;
    }

    // ---- home, a fire

    public int home(int room) {
        return isRoom(room) ? tellRescued(1 << room) : NONE;
    }

    public int fire(int rooms) {
        return rooms >= 1 && rooms <= ALL_ROOMS ? tellRescued(rooms) : NONE;
    }

    public int late(int room) {
        return isRoom(room) ? walks.shutOut(room) : NONE;
    }

    // ---- a day by plans

    public int day(int plan) {
        if (!isPlan(plan)) {
            return NONE;
        }
        walks.run(plan, NONE);
        return tellDay();
    }

    public int would(int plan) {
        if (!isPlan(plan)) {
            return NONE;
        }
        kept[TRIAL].take(doors, people);
        walks.run(plan, NONE);
        int done = tellDay();
        kept[TRIAL].giveBack(doors, people);
        return done;
    }

    public int plan() {
        int best = NONE;
        int bestWorth = 0;
        int bestPassed = 0;
        kept[TRIAL].take(doors, people);
        for (int plan = 0; plan < PLANS; plan++) {
            walks.run(plan, NONE);
            int worth = people.worthDone();
            if (best == NONE || worth > bestWorth || worth == bestWorth && walks.passed < bestPassed) {
                best = plan;
                bestWorth = worth;
                bestPassed = walks.passed;
            }
            kept[TRIAL].giveBack(doors, people);
        }
        rowSize = 0;
        tell(bestWorth);
        tell(bestPassed);
        return best;
    }

    public int order(int plan) {
        if (!isPlan(plan)) {
            return NONE;
        }
        if (Integer.bitCount(people.busyBits()) > Orders.MOST) {
            return TOO_MANY;
        }
        orders.search(plan);
        rowSize = 0;
        tell(orders.bestPassed);
        for (int i = 0; i < orders.size; i++) {
            tell(orders.best[i]);
        }
        return orders.bestWorth;
    }

    public int leave(int plan) {
        if (!isPlan(plan)) {
            return NONE;
        }
        int best = NONE;
        int bestWorth = 0;
        kept[TRIAL].take(doors, people);
        for (int p = 0; p < people.size; p++) {
            if (people.isBusy(p)) {
                walks.run(plan, p);
                int worth = people.worthDone();
                if (best == NONE || worth > bestWorth) {
                    best = p;
                    bestWorth = worth;
                }
                kept[TRIAL].giveBack(doors, people);
            }
        }
        if (best == NONE) {
            return CANNOT;
        }
        rowSize = 0;
        tell(bestWorth);
        return best;
    }

    // ---- for several, two at once

    public int tour(int person, int rooms) {
        if (!people.has(person) || !Tours.areFew(rooms)) {
            return NONE;
        }
        tours.prepare(rooms);
        int passed = tours.fewestFrom(people.where[person]);
        if (passed == NONE) {
            return CANNOT;
        }
        tours.arrange(people.where[person]);
        rowSize = 0;
        for (int i = 0; i < tours.size; i++) {
            tell(tours.arranged[i]);
        }
        return passed;
    }

    public int send(int rooms) {
        if (people.size == 0 || !Tours.areFew(rooms)) {
            return NONE;
        }
        tours.prepare(rooms);
        int best = NONE;
        int fewest = 0;
        for (int p = 0; p < people.size; p++) {
            int passed = tours.fewestFrom(people.where[p]);
            if (passed != NONE && (best == NONE || passed < fewest)) {
                best = p;
                fewest = passed;
            }
        }
        if (best == NONE) {
            return CANNOT;
        }
        rowSize = 0;
        tell(fewest);
        return best;
    }

    public int two(int one, int room, int other, int room2) {
        if (!people.has(one) || !people.has(other) || one == other || !isRoom(room) || !isRoom(room2)) {
            return NONE;
        }
        boolean bothCount = !people.stranger[one] && !people.stranger[other];
        int fewest = pairs.search(people.where[one], room, people.where[other], room2, bothCount);
        if (fewest == NONE) {
            return CANNOT;
        }
        rowSize = 0;
        tell(pairs.firstSize);
        for (int i = 0; i < pairs.firstSize; i++) {
            tell(pairs.first[i]);
        }
        for (int i = 0; i < pairs.secondSize; i++) {
            tell(pairs.second[i]);
        }
        return fewest;
    }

    // ---- what to keep

    public int keep(int door, int n, int c, int a, int d, int b) {
        boolean timely = doors.has(door) && n >= 0 && n <= MOST_WATCHED;
        if (!timely || c < 0 || c > CASES || d < 0 || d > CASES - c) {
            return NONE;
        }
        if (a < 0 || a > MOST_WORTH || b < a || b > MOST_WORTH) {
            return NONE;
        }
        int left = doors.left[door];
        Arrays.fill(hopes, 0);
        long parts = 1;
        int sentAway = 0;
        for (int hour = 0; hour < n; hour++) {
            if (left == 0 || a * parts + hopes[left - 1] < hopes[left]) {
                sentAway++;
            }
            // From the top down, so that the hope with one less is still that of an hour before.
            for (int i = left; i > 0; i--) {
                long without = hopes[i];
                long withA = Math.max(a * parts + hopes[i - 1], without);
                long withB = Math.max(b * parts + hopes[i - 1], without);
                hopes[i] = c * withA + d * withB + (CASES - c - d) * without;
            }
            parts *= CASES;
        }
        rowSize = 0;
        tell(hopes[left]);
        tell(sentAway);
        return 0;
    }

    public int sure(int from, int to) {
        if (!areUnlikeRooms(from, to)) {
            return NONE;
        }
        for (int least = MOST_LEFT; least > 0; least--) {
            if (doors.someHasLeft(least)) {
                routes.useAbove(least - 1);
                if (tellRoute(routes.find(from, to)) != CANNOT) {
                    return least;
                }
            }
        }
        return CANNOT;
    }

    // ---- who says counts

    public int says(int maid, int door, int number) {
        boolean known = maid >= 0 && maid < MAIDS && doors.has(door);
        if (!known || number < 0 || number > MOST_LEFT || sayings >= SAYINGS) {
            return NONE;
        }
        sayingMaid[sayings] = maid;
        sayingDoor[sayings] = door;
        sayingNumber[sayings] = number;
        sayings++;
        return sayings;
    }

    public int trust(int maid) {
        if (maid < 0 || maid >= MAIDS) {
            return NONE;
        }
        int said = 0;
        int right = 0;
        int off = 0;
        for (int i = 0; i < sayings; i++) {
            if (sayingMaid[i] == maid) {
                int by = Math.abs(sayingNumber[i] - doors.left[sayingDoor[i]]);
                said++;
                right += asNumber(by == 0);
                off += by;
            }
        }
        rowSize = 0;
        tell(said);
        tell(off);
        return right;
    }

    public int safe(int person, int room, int maids, int e) {
        boolean known = people.has(person) && isRoom(room);
        if (!known || maids < 1 || maids >= 1 << MAIDS || e < 0 || e > MOST_LEFT) {
            return NONE;
        }
        routes.useNone();
        for (int i = 0; i < sayings; i++) {
            if (hasBit(maids, sayingMaid[i]) && sayingNumber[i] > e) {
                routes.cost[sayingDoor[i]] = 1;
            }
        }
        return tellRoute(routes.find(people.where[person], room));
    }

    // ---- kept

    public boolean put(int i) {
        if (i < 0 || i >= KEPT) {
            return false;
        }
        kept[i].take(doors, people);
        return true;
    }

    public boolean again(int i) {
        if (i < 0 || i >= KEPT || !kept[i].filled) {
            return false;
        }
        kept[i].giveBack(doors, people);
        return true;
    }

    public int count(int what) {
        switch (what) {
            case 0:
                return doors.size;
            case 1:
                return people.size;
            case 2:
                return doors.hour;
            case 3:
                return doors.openBits();
            case 4:
                return doors.sumLeft();
            case 5:
                return sayings;
            case 6:
                return walks.keepBack;
            case 7:
                return rowSize;
            case 8:
                return textSize;
            case 9:
                return people.doneBits();
            default:
                return NONE;
        }
    }

    public long row(int i) throws NoSuchElementException {
        if (i < 0 || i >= rowSize) {
            throw new NoSuchElementException("no such number of the ROW");
        }
        return row[i];
    }

    // ---- what the calls share

    private void tell(long number) {
        if (rowSize < LONGEST_ROW) {
            row[rowSize] = number;
            rowSize++;
        }
    }

    // A ROW is told anew only when there is a route: -2 tells no numbers, so those told last stay.
    private int tellRoute(int found) {
        if (found == NONE) {
            return CANNOT;
        }
        rowSize = 0;
        for (int i = 0; i < found; i++) {
            tell(routes.found[i]);
        }
        return found;
    }

    private int tellRescued(int goals) {
        flow.load(doors);
        int rescued = 0;
        for (int p = 0; p < people.size; p++) {
            if (flow.sendOne(people.where[p], goals)) {
                rescued |= 1 << p;
            }
        }
        rowSize = 0;
        tell(rescued);
        return Integer.bitCount(rescued);
    }

    private int tellDay() {
        rowSize = 0;
        tell(people.worthDone());
        tell(walks.passed);
        tell(people.busyBits());
        return Integer.bitCount(people.doneBits());
    }

    private static int sheetEntry(int kind, int v) {
        int told = v;
        if (kind == 0) {
            told = (byte) v;
        } else if (kind == 1) {
            told = (short) v;
        }
        return Math.max(0, Math.min(MOST_LEFT, told));
    }

    private static boolean isRoom(int room) {
        return room >= 0 && room < ROOMS;
    }

    private static boolean areUnlikeRooms(int from, int to) {
        return isRoom(from) && isRoom(to) && from != to;
    }

    private static boolean isPlan(int plan) {
        return plan >= 0 && plan < PLANS;
    }

    private static boolean hasBit(int bits, int i) {
        return (bits >> i & 1) != 0;
    }

    private static int asNumber(boolean so) {
        return so ? 1 : 0;
    }

    private static boolean isDigit(char c) {
        return c >= '0' && c <= '9';
    }

    /** The DOORS, and the HOUR, which opens some of them anew. */
    private static final class Doors {
        final int[] a = new int[DOORS];
        final int[] b = new int[DOORS];
        final boolean[] oneWay = new boolean[DOORS];
        final int[] lets = new int[DOORS];
        final int[] noon = new int[DOORS];
        final int[] left = new int[DOORS];
        int size;
        int hour;

        boolean has(int door) {
            return door >= 0 && door < size;
        }

        /** The ROOM on the other side for one who goes from a ROOM; NONE if the DOOR does not go that way. */
        int beyond(int door, int room) {
            if (a[door] == room) {
                return b[door];
            }
            return b[door] == room && !oneWay[door] ? a[door] : NONE;
        }

        void goOn(int n) {
            boolean noonBegins = hour < NOON && hour + n >= NOON;
            hour += n;
            for (int d = 0; d < size && noonBegins; d++) {
                if (noon[d] != NONE) {
                    left[d] = noon[d];
                }
            }
        }

        boolean someHasLeft(int n) {
            for (int d = 0; d < size; d++) {
                if (left[d] == n) {
                    return true;
                }
            }
            return false;
        }

        int openBits() {
            int bits = 0;
            for (int d = 0; d < size; d++) {
                bits |= asNumber(left[d] > 0) << d;
            }
            return bits;
        }

        int sumLeft() {
            int sum = 0;
            for (int d = 0; d < size; d++) {
                sum += left[d];
            }
            return sum;
        }
    }

    /** The PEOPLE and how far they are with their ERRANDS. */
    private static final class People {
        final int[] where = new int[PEOPLE];
        final int[] first = new int[PEOPLE];
        final boolean[] stranger = new boolean[PEOPLE];
        final int[] worth = new int[PEOPLE];
        final int[] errand = new int[PEOPLE];
        final boolean[] back = new boolean[PEOPLE];
        // Whether one has been in its ERRAND's ROOM: one that comes BACK is not DONE there yet.
        final boolean[] reached = new boolean[PEOPLE];
        final boolean[] done = new boolean[PEOPLE];
        int size;

        boolean has(int person) {
            return person >= 0 && person < size;
        }

        boolean isBusy(int person) {
            return errand[person] != NONE && !done[person];
        }

        /** Where one has to come next, or NONE. */
        int goal(int person) {
            if (!isBusy(person)) {
                return NONE;
            }
            return reached[person] ? first[person] : errand[person];
        }

        void begin(int person, int room) {
            first[person] = room;
            reached[person] = false;
            done[person] = false;
            come(person, room);
        }

        void come(int person, int room) {
            where[person] = room;
            if (errand[person] == room) {
                reached[person] = true;
            }
            if (reached[person] && (!back[person] || room == first[person])) {
                done[person] = true;
            }
        }

        int worthDone() {
            int sum = 0;
            for (int p = 0; p < size; p++) {
                sum += done[p] ? worth[p] : 0;
            }
            return sum;
        }

        int doneBits() {
            int bits = 0;
            for (int p = 0; p < size; p++) {
                bits |= asNumber(done[p]) << p;
            }
            return bits;
        }

        int busyBits() {
            int bits = 0;
            for (int p = 0; p < size; p++) {
                bits |= asNumber(isBusy(p)) << p;
            }
            return bits;
        }
    }

    /** What changes as the PEOPLE go, kept to come back to. */
    private static final class Kept {
        private final int[] left = new int[DOORS];
        private final int[] where = new int[PEOPLE];
        private final boolean[] reached = new boolean[PEOPLE];
        private final boolean[] done = new boolean[PEOPLE];
        private int doorsKept;
        private int peopleKept;
        private int hour;
        boolean filled;

        void take(Doors doors, People people) {
            doorsKept = doors.size;
            peopleKept = people.size;
            hour = doors.hour;
            System.arraycopy(doors.left, 0, left, 0, doorsKept);
            for (int p = 0; p < peopleKept; p++) {
                where[p] = people.where[p];
                reached[p] = people.reached[p];
                done[p] = people.done[p];
            }
            filled = true;
        }

        void giveBack(Doors doors, People people) {
            doors.hour = hour;
            System.arraycopy(left, 0, doors.left, 0, doorsKept);
            for (int p = 0; p < peopleKept; p++) {
                people.where[p] = where[p];
                people.reached[p] = reached[p];
                people.done[p] = done[p];
            }
        }
    }

    /**
     * Reads THE TEXT as a house. What is read is written behind the DOORS and PEOPLE that there are, but counts
     * only when the whole of it is right.
     */
    private static final class HouseReader {
        private static final int LONGEST = 76;
        private final char[] signs;
        private final Doors doors;
        private final People people;
        private int limit;
        // The next sign; where reading fails, the sign that can't stand there.
        private int at;
        private int number;
        private int doorsRead;
        private int peopleRead;

        HouseReader(char[] signs, Doors doors, People people) {
            this.signs = signs;
            this.doors = doors;
            this.people = people;
        }

        int read(int size) {
            limit = Math.min(size, LONGEST);
            at = 0;
            doorsRead = doors.size;
            peopleRead = people.size;
            int lines = 0;
            boolean right = true;
            for (int i = 0; i < LONGEST && right && at < limit; i++) {
                right = (i == 0 || takes(';')) && readLine();
                lines++;
            }
            if (!right || size > LONGEST) {
                return -1 - at;
            }
            doors.size = doorsRead;
            people.size = peopleRead;
            return lines;
        }

        private boolean readLine() {
            if (stands('d')) {
                return doorsRead < DOORS && readDoor(doorsRead);
            }
            if (stands('p') || stands('s')) {
                return peopleRead < PEOPLE && readPerson(peopleRead);
            }
            return false;
        }

        private boolean readDoor(int door) {
            at++;
            if (!readNumber(ROOMS - 1)) {
                return false;
            }
            doors.a[door] = number;
            doors.oneWay[door] = stands('>');
            if (!takes('-') && !takes('>') || !readNumber(ROOMS - 1)) {
                return false;
            }
            if (number == doors.a[door]) {
                at--;
                return false;
            }
            doors.b[door] = number;
            if (!takes(',') || !readNumber(MOST_LEFT)) {
                return false;
            }
            doors.lets[door] = number;
            doors.left[door] = number;
            doors.noon[door] = NONE;
            if (takes('@')) {
                if (!readNumber(MOST_LEFT)) {
                    return false;
                }
                doors.noon[door] = number;
            }
            doorsRead++;
            return true;
        }

        private boolean readPerson(int person) {
            people.stranger[person] = stands('s');
            at++;
            if (!readNumber(ROOMS - 1)) {
                return false;
            }
            int room = number;
            if (!takes(',') || !readNumber(MOST_WORTH)) {
                return false;
            }
            people.worth[person] = number;
            people.errand[person] = NONE;
            people.back[person] = false;
            if (takes('>')) {
                if (!readNumber(ROOMS - 1)) {
                    return false;
                }
                people.errand[person] = number;
                people.back[person] = takes('<');
            }
            people.begin(person, room);
            peopleRead++;
            return true;
        }

        private boolean readNumber(int most) {
            number = 0;
            int digits = 0;
            while (digits < 2 && at < limit && isDigit(signs[at])) {
                number = number * 10 + (signs[at] - '0');
                at++;
                digits++;
            }
            if (number > most) {
                at--;
                return false;
            }
            return digits > 0;
        }

        private boolean stands(char c) {
            return at < limit && signs[at] == c;
        }

        private boolean takes(char c) {
            if (!stands(c)) {
                return false;
            }
            at++;
            return true;
        }
    }

    /** THE PRICE: read once into a row in which every sign stands behind what it joins, then worked out often. */
    private static final class Price {
        private static final int LONGEST = 40;
        private static final int DEEPEST = 4;
        private static final int GREATEST = 9999;
        private static final String NAMES = "lmohwk";
        private static final int NAMED = 6;
        private static final int CROWD_NAME = 5;
        // Beyond all signs of a text, so that none of them is taken for it.
        private static final int NEGATION = 256;

        private final char[] signs;
        // Numbers as they are; -1 - i for name i; signs as their numbers less than 0.
        private final int[] code = new int[LONGEST];
        private int size;
        boolean asksCrowd;
        private final int[] draft = new int[LONGEST];
        private int drafted;
        private final int[] waiting = new int[LONGEST];
        private int waits;
        private final boolean[] compared = new boolean[DEEPEST + 1];
        private int depth;
        private int limit;
        private int at;
        private boolean wantsThing;
        private final int[] stack = new int[LONGEST];
        private final int[] known = new int[NAMED];

        Price(char[] signs) {
            this.signs = signs;
        }

        int read(int length) {
            limit = Math.min(length, LONGEST);
            at = 0;
            drafted = 0;
            waits = 0;
            depth = 0;
            compared[0] = false;
            wantsThing = limit > 0;
            boolean right = true;
            for (int i = 0; i < LONGEST && right && at < limit; i++) {
                right = wantsThing ? readThing(signs[at]) : readJoint(signs[at]);
            }
            if (!right || length > LONGEST || wantsThing || depth > 0) {
                return -1 - at;
            }
            release(1);
            adopt();
            return 0;
        }

        private void adopt() {
            asksCrowd = false;
            for (int i = 0; i < drafted; i++) {
                code[i] = draft[i];
                asksCrowd |= draft[i] == -1 - CROWD_NAME;
            }
            size = drafted;
        }

        private boolean readThing(char c) {
            if (isDigit(c)) {
                emit(readNumber());
                wantsThing = false;
                return true;
            }
            int name = NAMES.indexOf(c);
            if (name >= 0) {
                emit(-1 - name);
                wantsThing = false;
            } else if (c == '-') {
                hold(NEGATION);
            } else if (c == '(' && depth < DEEPEST) {
                depth++;
                compared[depth] = false;
                hold('(');
            } else {
                return false;
            }
            at++;
            return true;
        }

        private int readNumber() {
            int number = 0;
            for (int i = 0; i < 3 && at < limit && isDigit(signs[at]); i++) {
                number = number * 10 + (signs[at] - '0');
                at++;
            }
            return number;
        }

        private boolean readJoint(char c) {
            if (c == ')') {
                if (depth == 0) {
                    return false;
                }
                release(1);
                waits--;
                depth--;
                at++;
                return true;
            }
            int rank = rankOf(c);
            if (rank == 0 || rank == 1 && compared[depth]) {
                return false;
            }
            if (rank == 1) {
                compared[depth] = true;
            }
            release(rank);
            hold(c);
            wantsThing = true;
            at++;
            return true;
        }

        // How strongly a sign binds; 0 for one that joins nothing, an open ( among them.
        private static int rankOf(int c) {
            switch (c) {
                case '<':
                case '>':
                case '=':
                    return 1;
                case '+':
                case '-':
                    return 2;
                case '*':
                    return 3;
                case NEGATION:
                    return 4;
                default:
                    return 0;
            }
        }

        private void hold(int c) {
            if (waits < LONGEST) {
                waiting[waits] = c;
                waits++;
            }
        }

        private void release(int rank) {
            while (waits > 0 && rankOf(waiting[waits - 1]) >= rank) {
                waits--;
                emit(-waiting[waits]);
            }
        }

        private void emit(int c) {
            if (drafted < LONGEST) {
                draft[drafted] = c;
                drafted++;
            }
        }

        void setDoor(int left, int lets, boolean oneWay, int onWay) {
            known[0] = left;
            known[1] = lets;
            known[2] = oneWay ? 1 : 0;
            known[5] = onWay;
        }

        void setGoer(int hour, int worth) {
            known[3] = hour;
            known[4] = worth;
        }

        /** The PRICE for the DOOR and the one who goes that were set. */
        int workOut() {
            if (size == 0) {
                return 1;
            }
            int top = 0;
            for (int i = 0; i < size; i++) {
                int c = code[i];
                if (c >= -NAMED) {
                    stack[top] = c >= 0 ? c : known[-1 - c];
                    top++;
                } else if (c == -NEGATION && top > 0) {
                    stack[top - 1] = -stack[top - 1];
                } else if (top > 1) {
                    top--;
                    stack[top - 1] = joined(-c, stack[top - 1], stack[top]);
                }
            }
            return Math.max(1, Math.min(GREATEST, stack[0]));
        }

        private static int joined(int c, int x, int y) {
            switch (c) {
                case '<':
                    return x < y ? 1 : 0;
                case '>':
                    return x > y ? 1 : 0;
                case '=':
                    return x == y ? 1 : 0;
                case '+':
                    return x + y;
                case '-':
                    return x - y;
                default:
                    return x * y;
            }
        }
    }

    /**
     * Finds the cheapest row of DOORS to a ROOM. The costs are measured from the goal back, so that going forward
     * the first DOOR that keeps to them is always that of the least row.
     */
    private static final class Routes {
        static final int FAR = 1 << 28;
        private final Doors doors;
        // What each DOOR costs; 0 for one that is not to be used.
        final int[] cost = new int[DOORS];
        final int[] dist = new int[ROOMS];
        private final int[] step = new int[ROOMS];
        final int[] found = new int[ROOMS];

        Routes(Doors doors) {
            this.doors = doors;
        }

        void useAbove(int least) {
            for (int d = 0; d < doors.size; d++) {
                cost[d] = asNumber(doors.left[d] > least);
            }
        }

        void useNone() {
            Arrays.fill(cost, 0);
        }

        /** How many DOORS the route has, which stand in found then; NONE if there is none. */
        int find(int from, int goal) {
            measure(goal);
            setSteps();
            return trace(from, goal);
        }

        /** What it costs to come from each ROOM to a goal (FAR: one can't). */
        void measure(int goal) {
            Arrays.fill(dist, FAR);
            dist[goal] = 0;
            boolean nearer = true;
            for (int i = 0; i < ROOMS && nearer; i++) {
                nearer = false;
                for (int d = 0; d < doors.size; d++) {
                    int a = doors.a[d];
                    int b = doors.b[d];
                    if (cost[d] == 0) {
                        continue;
                    }
                    if (dist[b] + cost[d] < dist[a]) {
                        dist[a] = dist[b] + cost[d];
                        nearer = true;
                    } else if (!doors.oneWay[d] && dist[a] + cost[d] < dist[b]) {
                        dist[b] = dist[a] + cost[d];
                        nearer = true;
                    }
                }
            }
        }

        // From the last DOOR down, so that of several the first one stays.
        private void setSteps() {
            for (int d = doors.size - 1; d >= 0; d--) {
                int a = doors.a[d];
                int b = doors.b[d];
                if (cost[d] == 0) {
                    continue;
                }
                if (dist[a] == dist[b] + cost[d]) {
                    step[a] = d;
                }
                if (!doors.oneWay[d] && dist[b] == dist[a] + cost[d]) {
                    step[b] = d;
                }
            }
        }

        private int trace(int from, int goal) {
            if (dist[from] >= FAR) {
                return NONE;
            }
            int size = 0;
            int room = from;
            for (int i = 0; i < ROOMS && room != goal; i++) {
                int door = step[room];
                found[size] = door;
                size++;
                room = doors.a[door] == room ? doors.b[door] : doors.a[door];
            }
            return size;
        }

        /** The ROOMS (bits) to which one can come from a ROOM by DOORS that are open. */
        int reach(int from) {
            int bits = 1 << from;
            int before = 0;
            for (int i = 0; i < ROOMS && bits != before; i++) {
                before = bits;
                for (int d = 0; d < doors.size; d++) {
                    if (doors.left[d] > 0 && hasBit(bits, doors.a[d])) {
                        bits |= 1 << doors.b[d];
                    }
                    if (doors.left[d] > 0 && !doors.oneWay[d] && hasBit(bits, doors.b[d])) {
                        bits |= 1 << doors.a[d];
                    }
                }
            }
            return bits;
        }
    }

    /** A greatest flow through the DOORS, and one that is not there yet. */
    private static final class Flow {
        // Far above the sum of all LEFT, which no flow exceeds.
        private static final int MOST_PUSHES = 2000;
        private final int[] a = new int[DOORS + 1];
        private final int[] b = new int[DOORS + 1];
        private final boolean[] oneWay = new boolean[DOORS + 1];
        final int[] lets = new int[DOORS + 1];
        // How many go from a to b, less those from b to a.
        private final int[] net = new int[DOORS + 1];
        final int[] gain = new int[DOORS];
        private int loaded;
        private int size;
        private final int[] via = new int[ROOMS];
        private final int[] queue = new int[ROOMS];
        // The ROOMS (bits) to which the last search came.
        private int reached;

        void load(Doors doors) {
            loaded = doors.size;
            size = loaded;
            for (int d = 0; d < size; d++) {
                a[d] = doors.a[d];
                b[d] = doors.b[d];
                oneWay[d] = doors.oneWay[d];
                lets[d] = doors.left[d];
            }
            Arrays.fill(net, 0);
        }

        /** Puts the one DOOR that is not there yet (in place of where it was before). */
        void lay(int from, int to, int n) {
            a[loaded] = from;
            b[loaded] = to;
            oneWay[loaded] = false;
            lets[loaded] = n;
            size = loaded + 1;
        }

        int greatest(int from, int to) {
            Arrays.fill(net, 0);
            int sum = 0;
            for (int i = 0; i < MOST_PUSHES; i++) {
                if (search(from, 1 << to) == NONE) {
                    break;
                }
                int n = narrowest(from, to);
                push(from, to, n);
                sum += n;
            }
            return sum;
        }

        /** Lets one more go from a ROOM to any of the goals, beside those who go already; false if it can't. */
        boolean sendOne(int from, int goals) {
            int to = search(from, goals);
            if (to == NONE) {
                return false;
            }
            push(from, to, 1);
            return true;
        }

        /** The sum over all pairs of ROOMS below n; gain then has by how much it is more with 1 more at each DOOR. */
        int sumOfPairs(int n) {
            Arrays.fill(gain, 0);
            int sum = 0;
            for (int from = 0; from < n; from++) {
                for (int to = 0; to < n; to++) {
                    if (from != to) {
                        sum += greatest(from, to);
                        addGains(reached, comingTo(to));
                    }
                }
            }
            return sum;
        }

        // One more at a DOOR lets one more through just if what is still free leads up to it and on behind it.
        private void addGains(int before, int behind) {
            for (int d = 0; d < size; d++) {
                boolean forth = hasBit(before, a[d]) && hasBit(behind, b[d]);
                boolean back = !oneWay[d] && hasBit(before, b[d]) && hasBit(behind, a[d]);
                gain[d] += asNumber(forth || back);
            }
        }

        int doorsOutOfReached() {
            int bits = 0;
            for (int d = 0; d < size; d++) {
                boolean forth = hasBit(reached, a[d]) && !hasBit(reached, b[d]);
                boolean back = !oneWay[d] && hasBit(reached, b[d]) && !hasBit(reached, a[d]);
                bits |= asNumber(lets[d] > 0 && (forth || back)) << d;
            }
            return bits;
        }

        // How many more could go through a DOOR from a ROOM, those who came against them turned round first.
        private int free(int door, int room) {
            if (a[door] == room) {
                return lets[door] - net[door];
            }
            if (b[door] == room) {
                return (oneWay[door] ? 0 : lets[door]) + net[door];
            }
            return 0;
        }

        private int search(int from, int goals) {
            reached = 1 << from;
            if (hasBit(goals, from)) {
                return from;
            }
            queue[0] = from;
            int tail = 1;
            for (int head = 0; head < tail && head < ROOMS; head++) {
                int room = queue[head];
                for (int d = 0; d < size; d++) {
                    if (free(d, room) <= 0) {
                        continue;
                    }
                    int next = a[d] == room ? b[d] : a[d];
                    if (hasBit(reached, next) || tail >= ROOMS) {
                        continue;
                    }
                    reached |= 1 << next;
                    via[next] = d;
                    if (hasBit(goals, next)) {
                        return next;
                    }
                    queue[tail] = next;
                    tail++;
                }
            }
            return NONE;
        }

        private int narrowest(int from, int to) {
            int least = MOST_PUSHES;
            int room = to;
            for (int i = 0; i < ROOMS && room != from; i++) {
                int d = via[room];
                room = a[d] == room ? b[d] : a[d];
                least = Math.min(least, free(d, room));
            }
            return least;
        }

        private void push(int from, int to, int n) {
            int room = to;
            for (int i = 0; i < ROOMS && room != from; i++) {
                int d = via[room];
                boolean forth = b[d] == room;
                net[d] += forth ? n : -n;
                room = forth ? a[d] : b[d];
            }
        }

        // The ROOMS (bits) from which what is still free leads to a ROOM.
        private int comingTo(int to) {
            int bits = 1 << to;
            int before = 0;
            for (int i = 0; i < ROOMS && bits != before; i++) {
                before = bits;
                for (int d = 0; d < size; d++) {
                    if (hasBit(bits, b[d]) && free(d, a[d]) > 0) {
                        bits |= 1 << a[d];
                    }
                    if (hasBit(bits, a[d]) && free(d, b[d]) > 0) {
                        bits |= 1 << b[d];
                    }
                }
            }
            return bits;
        }
    }

    /** How PEOPLE go by PLANS. */
    private static final class Walks {
        // More than a route has DOORS: a sum times this, and 1 for each DOOR, puts the fewest DOORS behind the sum.
        private static final int ABOVE_DOORS = 16;
        private static final int MOST_TIMES = 99;
        private final Doors doors;
        private final People people;
        private final Routes routes;
        private final Price price;
        // Who has each DOOR on the WAY, and how many of them are STRANGERS.
        final int[] onWay = new int[DOORS];
        final int[] strangersOnWay = new int[DOORS];
        int keepBack = 1;
        // How many DOORS were passed in the last run, or to and fro.
        int passed;
        boolean stranded;

        Walks(Doors doors, People people, Routes routes, Price price) {
            this.doors = doors;
            this.people = people;
            this.routes = routes;
            this.price = price;
        }

        void goThrough(int person, int door) {
            int next = doors.beyond(door, people.where[person]);
            if (next != NONE) {
                spend(person, door);
                people.come(person, next);
            }
        }

        private void spend(int person, int door) {
            if (!people.stranger[person]) {
                doors.left[door]--;
            }
        }

        /** All but one left out (NONE: nobody) go in order. */
        void run(int plan, int leftOut) {
            int sum = 0;
            for (int p = 0; p < people.size; p++) {
                if (p != leftOut) {
                    sum += trip(p, plan);
                }
            }
            passed = sum;
        }

        /** One goes there and back, as far as it can: how many DOORS it passes. */
        int trip(int person, int plan) {
            int sum = 0;
            for (int i = 0; i < 2 && people.isBusy(person); i++) {
                int size = leg(person, plan);
                if (size == NONE) {
                    break;
                }
                sum += size;
            }
            return sum;
        }

        /** One goes to where it has to come next: how many DOORS (in routes.found); NONE if it can't. */
        int leg(int person, int plan) {
            int goal = people.goal(person);
            if (goal == NONE) {
                return NONE;
            }
            // Ahead of the costs, for it sets costs of its own.
            if (plan == PRICED && price.asksCrowd) {
                countWays(person);
            }
            setCosts(person, plan);
            int size = routes.find(people.where[person], goal);
            for (int i = 0; i < size; i++) {
                goThrough(person, routes.found[i]);
            }
            return size;
        }

        /** The fewest DOORS with which one who is busy can end its ERRAND at all, as they get no more (0: it can't). */
        int fewestDoors(int person) {
            int goal = people.goal(person);
            if (goal == NONE) {
                return 0;
            }
            routes.useAbove(0);
            routes.measure(goal);
            int sum = routes.dist[people.where[person]];
            if (people.back[person] && !people.reached[person]) {
                routes.measure(people.first[person]);
                sum += routes.dist[goal];
            }
            return sum < Routes.FAR ? sum : 0;
        }

        private void setCosts(int person, int plan) {
            if (plan == STRAIGHT || plan == KEEPING) {
                routes.useAbove(plan == KEEPING ? keepBack : 0);
                return;
            }
            for (int d = 0; d < doors.size; d++) {
                routes.cost[d] = 0;
                if (doors.left[d] > 0) {
                    setPrice(person, d);
                    int sum = plan == SPARE ? MOST_LEFT + 1 - doors.left[d] : price.workOut();
                    routes.cost[d] = sum * ABOVE_DOORS + 1;
                }
            }
        }

        /** Sets for whom and of which DOOR to work out THE PRICE, with the others on their WAY as counted last. */
        void setPrice(int person, int door) {
            price.setGoer(doors.hour, people.worth[person]);
            price.setDoor(doors.left[door], doors.lets[door], doors.oneWay[door], onWay[door]);
        }

        /** Counts who of all but one has each DOOR on the WAY to where it has to come next. */
        void countWays(int leftOut) {
            Arrays.fill(onWay, 0);
            Arrays.fill(strangersOnWay, 0);
            routes.useAbove(0);
            for (int p = 0; p < people.size; p++) {
                int goal = people.goal(p);
                if (p == leftOut || goal == NONE) {
                    continue;
                }
                int size = routes.find(people.where[p], goal);
                for (int i = 0; i < size; i++) {
                    onWay[routes.found[i]]++;
                    strangersOnWay[routes.found[i]] += asNumber(people.stranger[p]);
                }
            }
        }

        /** How often one comes to a ROOM and back; LEFT is then as it would be. */
        int toAndFro(int person, int room) {
            int start = people.where[person];
            passed = 0;
            stranded = false;
            for (int times = 0; times < MOST_TIMES; times++) {
                if (!crosses(person, start, room)) {
                    return times;
                }
                if (!crosses(person, room, start)) {
                    stranded = true;
                    return times;
                }
            }
            return MOST_TIMES;
        }

        private boolean crosses(int person, int from, int to) {
            routes.useAbove(0);
            int size = routes.find(from, to);
            if (size == NONE) {
                return false;
            }
            for (int i = 0; i < size; i++) {
                spend(person, routes.found[i]);
            }
            passed += size;
            return true;
        }

        /** Who (bits) can come to a ROOM, but not behind some other one. */
        int shutOut(int room) {
            int can = canCome(room);
            int late = 0;
            for (int p = 0; p < people.size; p++) {
                if (hasBit(can, p) && !people.stranger[p]) {
                    late |= can & ~(1 << p) & ~canComeBehind(p, room);
                }
            }
            return late;
        }

        private int canComeBehind(int person, int room) {
            routes.useAbove(0);
            int size = routes.find(people.where[person], room);
            for (int i = 0; i < size; i++) {
                doors.left[routes.found[i]]--;
            }
            int can = canCome(room);
            for (int i = 0; i < size; i++) {
                doors.left[routes.found[i]]++;
            }
            return can;
        }

        private int canCome(int room) {
            routes.useAbove(0);
            routes.measure(room);
            int bits = 0;
            for (int p = 0; p < people.size; p++) {
                bits |= asNumber(routes.dist[people.where[p]] < Routes.FAR) << p;
            }
            return bits;
        }
    }

    /** Tries every order of those with an ERRAND not DONE, the least row first. */
    private static final class Orders {
        static final int MOST = 6;
        private final Doors doors;
        private final People people;
        private final Walks walks;
        private final Kept[] levels = new Kept[MOST];
        private final int[] goers = new int[MOST];
        private final int[] tried = new int[MOST];
        final int[] best = new int[MOST];
        int size;
        int bestWorth;
        int bestPassed;
        private int plan;
        // The WORTH that is DONE, with that of all who have still to go.
        private int hope;
        private int passed;
        // How many DOORS each must pass for its WORTH, and all who have still to go.
        private final int[] must = new int[MOST];
        private int mustAll;

        Orders(Doors doors, People people, Walks walks) {
            this.doors = doors;
            this.people = people;
            this.walks = walks;
            for (int i = 0; i < MOST; i++) {
                levels[i] = new Kept();
            }
        }

        void search(int byPlan) {
            begin(byPlan);
            goOn(0, 0);
        }

        private void begin(int byPlan) {
            plan = byPlan;
            size = 0;
            hope = people.worthDone();
            passed = 0;
            mustAll = 0;
            bestWorth = NONE;
            bestPassed = 0;
            for (int p = 0; p < people.size && size < MOST; p++) {
                if (people.isBusy(p)) {
                    goers[size] = p;
                    // Who has no WORTH may as well fail, with no DOORS at all.
                    must[size] = people.worth[p] > 0 ? walks.fewestDoors(p) : 0;
                    mustAll += must[size];
                    hope += people.worth[p];
                    size++;
                }
            }
        }

        /** Tries all who are not gone yet (bits) in each order behind those tried before. */
        private void goOn(int depth, int gone) {
            if (depth >= size) {
                adopt();
                return;
            }
            int hopeBefore = hope;
            int passedBefore = passed;
            int mustBefore = mustAll;
            levels[depth].take(doors, people);
            for (int i = 0; i < size; i++) {
                if (hasBit(gone, i)) {
                    continue;
                }
                int person = goers[i];
                tried[depth] = person;
                passed += walks.trip(person, plan);
                mustAll -= must[i];
                hope -= people.done[person] ? 0 : people.worth[person];
                if (canBeBetter()) {
                    goOn(depth + 1, gone | 1 << i);
                }
                hope = hopeBefore;
                passed = passedBefore;
                mustAll = mustBefore;
                levels[depth].giveBack(doors, people);
            }
        }

        // An equal one comes later in order, and so is the greater row.
        private boolean canBeBetter() {
            return hope > bestWorth || hope == bestWorth && passed + mustAll < bestPassed;
        }

        private void adopt() {
            bestWorth = hope;
            bestPassed = passed;
            System.arraycopy(tried, 0, best, 0, size);
        }
    }

    /** The fewest DOORS to come to several ROOMS. */
    private static final class Tours {
        private static final int MOST = 6;
        private final Routes routes;
        private final int[] rooms = new int[MOST];
        // How far it is to each of the ROOMS from every ROOM of the house.
        private final int[][] far = new int[MOST][ROOMS];
        // How far it is from one of the ROOMS to all of a set of them (bits).
        private final int[][] rest = new int[1 << MOST][MOST];
        final int[] arranged = new int[MOST];
        int size;

        Tours(Routes routes) {
            this.routes = routes;
        }

        static boolean areFew(int bits) {
            return bits >= 0 && bits <= ALL_ROOMS && Integer.bitCount(bits) <= MOST;
        }

        void prepare(int bits) {
            size = 0;
            routes.useAbove(0);
            for (int room = 0; room < ROOMS && size < MOST; room++) {
                if (hasBit(bits, room)) {
                    routes.measure(room);
                    System.arraycopy(routes.dist, 0, far[size], 0, ROOMS);
                    rooms[size] = room;
                    size++;
                }
            }
            for (int set = 0; set < 1 << size; set++) {
                for (int i = 0; i < size; i++) {
                    rest[set][i] = farFrom(rooms[i], set);
                }
            }
        }

        // Asks only for smaller sets, which stand already.
        private int farFrom(int room, int set) {
            int least = set == 0 ? 0 : Routes.FAR;
            for (int i = 0; i < size; i++) {
                if (hasBit(set, i)) {
                    least = Math.min(least, far[i][room] + rest[set & ~(1 << i)][i]);
                }
            }
            return least;
        }

        int fewestFrom(int room) {
            int least = farFrom(room, (1 << size) - 1);
            return least < Routes.FAR ? least : NONE;
        }

        /** Puts the ROOMS in the order of the shortest tour, of equal ones the least row. */
        void arrange(int from) {
            int set = (1 << size) - 1;
            int room = from;
            for (int n = 0; n < size; n++) {
                int next = nextOf(room, set);
                if (next == NONE) {
                    return;
                }
                set &= ~(1 << next);
                room = rooms[next];
                arranged[n] = room;
            }
        }

        private int nextOf(int room, int set) {
            int least = farFrom(room, set);
            for (int i = 0; i < size; i++) {
                if (hasBit(set, i) && far[i][room] + rest[set & ~(1 << i)][i] == least) {
                    return i;
                }
            }
            return NONE;
        }
    }

    /** Two who go at once: every row of the first one, the least first, with the best of the other beside it. */
    private static final class Pairs {
        private static final int LONGEST = 5;
        private static final int MORE_THAN_BOTH = 11;
        private final Doors doors;
        private final Routes routes;
        private final int[] toGoal = new int[ROOMS];
        private final int[] tried = new int[LONGEST];
        final int[] first = new int[LONGEST];
        int firstSize;
        final int[] second = new int[LONGEST];
        int secondSize;
        private int fewest;
        private int goal;
        private int otherFrom;
        private int otherGoal;
        private int otherLeast;
        private boolean bothCount;

        Pairs(Doors doors, Routes routes) {
            this.doors = doors;
            this.routes = routes;
        }

        int search(int from, int to, int from2, int to2, boolean countBoth) {
            goal = to;
            otherFrom = from2;
            otherGoal = to2;
            bothCount = countBoth;
            fewest = MORE_THAN_BOTH;
            routes.useAbove(0);
            routes.measure(otherGoal);
            otherLeast = routes.dist[otherFrom];
            routes.measure(goal);
            System.arraycopy(routes.dist, 0, toGoal, 0, ROOMS);
            goOn(0, from, 1 << from);
            return fewest < MORE_THAN_BOTH ? fewest : NONE;
        }

        private void goOn(int depth, int room, int seen) {
            if (room == goal) {
                tryOther(depth);
                return;
            }
            if (depth >= LONGEST) {
                return;
            }
            for (int d = 0; d < doors.size; d++) {
                int next = doors.left[d] > 0 ? doors.beyond(d, room) : NONE;
                if (next == NONE || hasBit(seen, next)) {
                    continue;
                }
                int least = depth + 1 + toGoal[next];
                if (least <= LONGEST && least + otherLeast < fewest) {
                    tried[depth] = d;
                    goOn(depth + 1, next, seen | 1 << next);
                }
            }
        }

        private void tryOther(int depth) {
            routes.useAbove(0);
            for (int i = 0; i < depth && bothCount; i++) {
                if (doors.left[tried[i]] < 2) {
                    routes.cost[tried[i]] = 0;
                }
            }
            int size = routes.find(otherFrom, otherGoal);
            if (size == NONE || size > LONGEST || depth + size >= fewest) {
                return;
            }
            fewest = depth + size;
            firstSize = depth;
            secondSize = size;
            System.arraycopy(tried, 0, first, 0, depth);
            System.arraycopy(routes.found, 0, second, 0, size);
        }
    }
}
