/** Notices that go through a tree of brokers to where they are wished for. */
public final class NoticeBoxes {
    public static final int NONE = -1, UNKNOWN = -1000000001, OUTSIDE = -1000000002, NOT = -1000000003, FULL = -1000000004;

    private static final int MAX_BROKERS = 7;
    private static final int MAX_CLIENTS = 6;
    private static final int MAX_WISHES = 12;
    private static final int MAX_MOST = 9;
    private static final int MAX_VALUE = 9;
    private static final int LOG_LENGTH = 12;
    private static final int MAX_KEPT = 8;
    private static final int MAX_ENTRIES = 20;
    private static final int MAX_UNDONE = 16;
    private static final int MAX_DRIFT = 8;
    private static final int IMAGES = 2;
    private static final int THINGS = 3;
    private static final int BOUNDS = 6;
    private static final int ALL_NOTICES = 1000;
    private static final int SEED_BITS = 0x7FFFFFFF;

    private static final int ANY = 0, AT_MOST = 1, AT_LEAST = 2, JUST = 3;

    private final State now = new State();
    private final Tellings tellings = new Tellings();
    private final Journey journey = new Journey();
    private final Past past = new Past();
    private final Book book = new Book();
    private final Draws draws = new Draws();
    private final Image[] images = new Image[IMAGES];

    public NoticeBoxes() {
        for (int i = 0; i < IMAGES; i++) {
            images[i] = new Image();
        }
    }

    // ---- what is so

    public int told(int what) {
        switch (what) {
            case 0: return now.brokerCount;
            case 1: return now.clientCount;
            case 2: return now.wishCount;
            case 3: return now.mostTold;
            case 4: return now.nextNotice;
            case 5:
                tellings.refresh(now);
                return tellings.countAll(now);
            case 6: return now.linkSum;
            case 7: return now.vainSum;
            case 8: return book.count;
            case 9: return book.firstWrong(now);
            case 10: return past.count;
            case 11: return draws.value;
            default: return OUTSIDE;
        }
    }

    public int brokerAt(int b, int what) {
        if (!now.hasBroker(b)) return UNKNOWN;
        switch (what) {
            case 0: return now.above[b];
            case 1: return now.neighboursOf(b);
            case 2: return now.clientsHomeAt(b);
            case 3: return now.wishesOf(now.clientsHomeAt(b));
            default: return OUTSIDE;
        }
    }

    public int clientAt(int c, int what) {
        if (!now.hasClient(c)) return UNKNOWN;
        Client one = now.clients[c];
        switch (what) {
            case 0: return one.home;
            case 1: return one.present ? 1 : 0;
            case 2: return one.had;
            case 3: return one.keptCount;
            case 4: return one.lost;
            case 5: return now.wishesOf(1 << c);
            default: return OUTSIDE;
        }
    }

    public int log(int c, int i) {
        if (!now.hasClient(c)) return UNKNOWN;
        if (!within(i, 0, LOG_LENGTH - 1)) return OUTSIDE;
        return now.clients[c].latest(i);
    }

    public int wishAt(int w, int what) {
        if (!now.hasWish(w)) return UNKNOWN;
        if (!within(what, 0, 8)) return OUTSIDE;
        if (what == 0) return now.wishers[w];
        if (what <= BOUNDS) return Box.bound(now.wishBoxes[w], what - 1);
        if (what == 7) return Box.size(now.wishBoxes[w]);
        return now.wishesCoveredBy(w);
    }

    public int toldOn(int b, int n) {
        if (!now.areNeighbours(b, n)) return UNKNOWN;
        tellings.refresh(now);
        return tellings.between(now, b, n).count;
    }

    public int box(int b, int n, int i, int what) {
        if (!now.areNeighbours(b, n)) return UNKNOWN;
        tellings.refresh(now);
        BoxList list = tellings.between(now, b, n);
        if (!within(i, 0, list.count - 1)) return UNKNOWN;
        if (!within(what, 0, 7)) return OUTSIDE;
        int one = list.boxes[i];
        if (what < BOUNDS) return Box.bound(one, what);
        if (what == BOUNDS) return Box.size(one);
        return now.isWished(one) ? 1 : 0;
    }

    public int would(int b, int x, int y, int z, int what) {
        if (!now.hasBroker(b)) return UNKNOWN;
        if (!isNotice(x, y, z) || !within(what, 0, 3)) return OUTSIDE;
        tellings.refresh(now);
        journey.travel(now, tellings, b, Box.ofNotice(x, y, z));
        switch (what) {
            case 0: return journey.places;
            case 1: return journey.getters;
            case 2: return journey.vain;
            default: return journey.links;
        }
    }

    // ---- deeds

    public int broker(int above) {
        if (!now.hasBroker(above)) return UNKNOWN;
        if (now.brokerCount >= MAX_BROKERS) return FULL;
        past.remember(now);
        tellings.outdate();
        return now.addBroker(above);
    }

    public int client(int home) {
        if (!now.hasBroker(home)) return UNKNOWN;
        if (now.clientCount >= MAX_CLIENTS) return FULL;
        past.remember(now);
        return now.addClient(home);
    }

    public int wish(int c, int kindX, int x, int kindY, int y, int kindZ, int z) {
        if (!now.hasClient(c)) return UNKNOWN;
        if (!isKind(kindX) || !isKind(kindY) || !isKind(kindZ) || !isNotice(x, y, z)) return OUTSIDE;
        if (now.wishCount >= MAX_WISHES) return FULL;
        past.remember(now);
        tellings.outdate();
        int wished = Box.withKind(0, kindX, x);
        wished = Box.withKind(wished, kindY, y);
        wished = Box.withKind(wished, kindZ, z);
        return now.addWish(c, wished);
    }

    public int drop(int w) {
        if (!now.hasWish(w)) return UNKNOWN;
        past.remember(now);
        tellings.outdate();
        now.removeWish(w);
        return now.wishCount;
    }

    public int most(int n) {
        if (!within(n, 1, MAX_MOST)) return OUTSIDE;
        past.remember(now);
        tellings.outdate();
        int before = now.mostTold;
        now.mostTold = n;
        return before;
    }

    public int put(int b, int x, int y, int z) {
        if (!now.hasBroker(b)) return UNKNOWN;
        if (!isNotice(x, y, z)) return OUTSIDE;
        tellings.refresh(now);
        return deliver(b, Box.ofNotice(x, y, z));
    }

    public int leave(int c) {
        if (!now.hasClient(c)) return UNKNOWN;
        Client one = now.clients[c];
        if (!one.present) return NOT;
        past.remember(now);
        one.present = false;
        return one.home;
    }

    public int come(int c, int b) {
        if (!now.hasClient(c) || !now.hasBroker(b)) return UNKNOWN;
        Client one = now.clients[c];
        if (one.present) return NOT;
        past.remember(now);
        tellings.outdate();
        return one.arrive(b);
    }

    public int part() {
        if (now.clientCount <= 0) return NOT;
        past.remember(now);
        tellings.outdate();
        now.removeLatestClient();
        return now.clientCount;
    }

    public int drift(int n) {
        if (!within(n, 1, MAX_DRIFT)) return OUTSIDE;
        tellings.refresh(now);
        for (int i = 0; i < n; i++) {
            int b = draws.draw(now.brokerCount);
            int x = draws.draw(MAX_VALUE + 1);
            int y = draws.draw(MAX_VALUE + 1);
            int z = draws.draw(MAX_VALUE + 1);
            deliver(b, Box.ofNotice(x, y, z));
        }
        return now.nextNotice;
    }

    public int undo(int n) {
        if (!within(n, 1, MAX_UNDONE)) return OUTSIDE;
        if (n > past.count) return NOT;
        past.restore(now, n);
        tellings.outdate();
        return past.count;
    }

    // ---- the book

    public int write(int c, int had) {
        if (!now.hasClient(c)) return UNKNOWN;
        if (book.count >= MAX_ENTRIES) return FULL;
        book.add(c, had);
        return book.count;
    }

    public int tear() {
        int before = book.count;
        book.count = 0;
        return before;
    }

    // ---- images

    public int seed(int v) {
        if (v < 0) return OUTSIDE;
        int before = draws.value;
        draws.value = v;
        return before;
    }

    public int keep(int i) {
        if (!within(i, 0, IMAGES - 1)) return UNKNOWN;
        images[i].take(now, draws);
        past.forget();
        return 1;
    }

    public int goBack(int i) {
        if (!within(i, 0, IMAGES - 1)) return UNKNOWN;
        if (!images[i].taken) return NOT;
        images[i].giveBack(now, draws);
        past.forget();
        tellings.outdate();
        return 1;
    }

    private int deliver(int b, int notice) {
        past.remember(now);
        journey.travel(now, tellings, b, notice);
        now.hand(journey);
        return Integer.bitCount(journey.getters);
    }

    private static boolean within(int v, int low, int high) {
        return low <= v && v <= high;
    }

    private static boolean holds(int set, int k) {
        return ((set >> k) & 1) == 1;
    }

    private static boolean isKind(int kind) {
        return within(kind, ANY, JUST);
    }

    private static boolean isNotice(int x, int y, int z) {
        return within(x, 0, MAX_VALUE) && within(y, 0, MAX_VALUE) && within(z, 0, MAX_VALUE);
    }

    /**
     * A box is one int, four bits a bound, the first bound highest: so the order of boxes
     * is the order of ints, and no box needs an object. A notice is a box of size 1.
     */
    private static final class Box {
        static int ofNotice(int x, int y, int z) {
            return withBounds(withBounds(withBounds(0, x, x), y, y), z, z);
        }

        static int withBounds(int box, int from, int to) {
            return (box << 8) | (from << 4) | to;
        }

        static int withKind(int box, int kind, int v) {
            int from = kind == AT_LEAST || kind == JUST ? v : 0;
            int to = kind == AT_MOST || kind == JUST ? v : MAX_VALUE;
            return withBounds(box, from, to);
        }

        static int bound(int box, int k) {
            return (box >> (20 - 4 * k)) & 15;
        }

        static int from(int box, int thing) {
            return (box >> (20 - 8 * thing)) & 15;
        }

        static int to(int box, int thing) {
            return (box >> (16 - 8 * thing)) & 15;
        }

        static int size(int box) {
            int size = 1;
            for (int t = 0; t < THINGS; t++) {
                size *= to(box, t) - from(box, t) + 1;
            }
            return size;
        }

        static int sizeOfCommon(int a, int b) {
            int size = 1;
            for (int t = 0; t < THINGS; t++) {
                int low = Math.max(from(a, t), from(b, t));
                int high = Math.min(to(a, t), to(b, t));
                size *= Math.max(0, high - low + 1);
            }
            return size;
        }

        static boolean covers(int outer, int inner) {
            for (int t = 0; t < THINGS; t++) {
                if (from(inner, t) < from(outer, t) || to(inner, t) > to(outer, t)) return false;
            }
            return true;
        }

        static int joined(int a, int b) {
            int both = 0;
            for (int t = 0; t < THINGS; t++) {
                both = withBounds(both, Math.min(from(a, t), from(b, t)), Math.max(to(a, t), to(b, t)));
            }
            return both;
        }

        static int waste(int a, int b) {
            return size(joined(a, b)) - (size(a) + size(b) - sizeOfCommon(a, b));
        }
    }

    /** Boxes in order, none of which covers another one. */
    private static final class BoxList {
        // Boxes told on stem from wishes, each from others: no list is ever longer than all wishes.
        final int[] boxes = new int[MAX_WISHES];
        int count;

        boolean covers(int box) {
            for (int i = 0; i < count; i++) {
                if (Box.covers(boxes[i], box)) return true;
            }
            return false;
        }

        void add(int box) {
            if (covers(box)) return;
            removeCoveredBy(box);
            insert(box);
        }

        /** The box that two of these make, those by which least is wasted. */
        int cheapestJoin() {
            // No waste is as large as this: the two boxes themselves are never wasted.
            int least = ALL_NOTICES;
            int cheapest = 0;
            for (int i = 0; i < count; i++) {
                for (int j = i + 1; j < count; j++) {
                    int waste = Box.waste(boxes[i], boxes[j]);
                    // Only a lesser waste wins, so that of like pairs the first in order stays.
                    if (waste < least) {
                        least = waste;
                        cheapest = Box.joined(boxes[i], boxes[j]);
                    }
                }
            }
            return cheapest;
        }

        private void removeCoveredBy(int box) {
            int left = 0;
            for (int i = 0; i < count; i++) {
                if (!Box.covers(box, boxes[i])) {
                    boxes[left] = boxes[i];
                    left++;
                }
            }
            count = left;
        }

        private void insert(int box) {
            if (count >= boxes.length) return;
            int place = count;
            while (place > 0 && boxes[place - 1] > box) {
                boxes[place] = boxes[place - 1];
                place--;
            }
            boxes[place] = box;
            count++;
        }
    }

    private static final class Client {
        int home;
        boolean present;
        int had;
        int lost;
        int keptCount;
        final int[] kept = new int[MAX_KEPT];
        final int[] latestFirst = new int[LOG_LENGTH];

        void begin(int broker) {
            home = broker;
            present = true;
            had = 0;
            lost = 0;
            keptCount = 0;
        }

        void copyFrom(Client other) {
            home = other.home;
            present = other.present;
            had = other.had;
            lost = other.lost;
            keptCount = other.keptCount;
            System.arraycopy(other.kept, 0, kept, 0, MAX_KEPT);
            System.arraycopy(other.latestFirst, 0, latestFirst, 0, LOG_LENGTH);
        }

        int latest(int i) {
            return i < had ? latestFirst[i] : NONE;
        }

        void receive(int notice) {
            if (present) {
                enter(notice);
            } else {
                store(notice);
            }
        }

        int arrive(int broker) {
            int stored = keptCount;
            home = broker;
            present = true;
            for (int i = 0; i < stored; i++) {
                enter(kept[i]);
            }
            keptCount = 0;
            return stored;
        }

        private void enter(int notice) {
            for (int i = LOG_LENGTH - 1; i > 0; i--) {
                latestFirst[i] = latestFirst[i - 1];
            }
            latestFirst[0] = notice;
            had++;
        }

        private void store(int notice) {
            if (keptCount >= MAX_KEPT) loseFirst();
            kept[keptCount] = notice;
            keptCount++;
        }

        private void loseFirst() {
            for (int i = 0; i < MAX_KEPT - 1; i++) {
                kept[i] = kept[i + 1];
            }
            keptCount = MAX_KEPT - 1;
            lost++;
        }
    }

    /** All of the document's sections 1 to 3 but what follows from the rest. */
    private static final class State {
        int brokerCount = 1;
        int clientCount;
        int wishCount;
        int mostTold = MAX_MOST;
        int nextNotice;
        int linkSum;
        int vainSum;
        final int[] above = new int[MAX_BROKERS];
        final Client[] clients = new Client[MAX_CLIENTS];
        final int[] wishers = new int[MAX_WISHES];
        final int[] wishBoxes = new int[MAX_WISHES];

        State() {
            above[0] = NONE;
            for (int c = 0; c < MAX_CLIENTS; c++) {
                clients[c] = new Client();
            }
        }

        void copyFrom(State other) {
            brokerCount = other.brokerCount;
            clientCount = other.clientCount;
            wishCount = other.wishCount;
            mostTold = other.mostTold;
            nextNotice = other.nextNotice;
            linkSum = other.linkSum;
            vainSum = other.vainSum;
            System.arraycopy(other.above, 0, above, 0, MAX_BROKERS);
            for (int c = 0; c < clientCount; c++) {
                clients[c].copyFrom(other.clients[c]);
            }
            System.arraycopy(other.wishers, 0, wishers, 0, MAX_WISHES);
            System.arraycopy(other.wishBoxes, 0, wishBoxes, 0, MAX_WISHES);
        }

        boolean hasBroker(int b) {
            return within(b, 0, brokerCount - 1);
        }

        boolean hasClient(int c) {
            return within(c, 0, clientCount - 1);
        }

        boolean hasWish(int w) {
            return within(w, 0, wishCount - 1);
        }

        boolean areNeighbours(int a, int b) {
            return hasBroker(a) && hasBroker(b) && (above[a] == b || above[b] == a);
        }

        int neighboursOf(int b) {
            int set = 0;
            for (int n = 0; n < brokerCount; n++) {
                if (areNeighbours(b, n)) set |= 1 << n;
            }
            return set;
        }

        int clientsHomeAt(int b) {
            int set = 0;
            for (int c = 0; c < clientCount; c++) {
                if (clients[c].home == b) set |= 1 << c;
            }
            return set;
        }

        int wishesOf(int clientSet) {
            int set = 0;
            for (int w = 0; w < wishCount; w++) {
                if (holds(clientSet, wishers[w])) set |= 1 << w;
            }
            return set;
        }

        int wishesCoveredBy(int w) {
            int set = 0;
            for (int other = 0; other < wishCount; other++) {
                if (other != w && Box.covers(wishBoxes[w], wishBoxes[other])) set |= 1 << other;
            }
            return set;
        }

        int clientsWishing(int notice) {
            int set = 0;
            for (int w = 0; w < wishCount; w++) {
                if (Box.covers(wishBoxes[w], notice)) set |= 1 << wishers[w];
            }
            return set;
        }

        boolean isWished(int box) {
            for (int w = 0; w < wishCount; w++) {
                if (wishBoxes[w] == box) return true;
            }
            return false;
        }

        int addBroker(int parent) {
            above[brokerCount] = parent;
            brokerCount++;
            return brokerCount - 1;
        }

        int addClient(int home) {
            clients[clientCount].begin(home);
            clientCount++;
            return clientCount - 1;
        }

        int addWish(int c, int box) {
            wishers[wishCount] = c;
            wishBoxes[wishCount] = box;
            wishCount++;
            return wishCount - 1;
        }

        void removeWish(int w) {
            for (int i = w; i < wishCount - 1; i++) {
                wishers[i] = wishers[i + 1];
                wishBoxes[i] = wishBoxes[i + 1];
            }
            wishCount--;
        }

        void removeLatestClient() {
            clientCount--;
            for (int w = wishCount - 1; w >= 0; w--) {
                if (wishers[w] == clientCount) removeWish(w);
            }
        }

        void hand(Journey journey) {
            for (int c = 0; c < clientCount; c++) {
                if (holds(journey.getters, c)) clients[c].receive(nextNotice);
            }
            nextNotice++;
            linkSum += journey.links;
            vainSum += Integer.bitCount(journey.vain);
        }
    }

    /** What brokers tell on: it may be asked only behind refresh(), which works it out anew after a change. */
    private static final class Tellings {
        // Each broker but 0 has one link to the one above it: both ways have the lower broker's number.
        private final BoxList[] upward = new BoxList[MAX_BROKERS];
        private final BoxList[] downward = new BoxList[MAX_BROKERS];
        private boolean fresh;

        Tellings() {
            for (int b = 0; b < MAX_BROKERS; b++) {
                upward[b] = new BoxList();
                downward[b] = new BoxList();
            }
        }

        void outdate() {
            fresh = false;
        }

        /** The two must be neighbours. */
        BoxList between(State state, int from, int to) {
            return state.above[from] == to ? upward[from] : downward[to];
        }

        int countAll(State state) {
            int sum = 0;
            for (int b = 1; b < state.brokerCount; b++) {
                sum += upward[b].count + downward[b].count;
            }
            return sum;
        }

        // A broker's number is greater than that of the one above it: so what a list is made from
        // is always made ahead of it, first all that goes up, from the last broker on, then down.
        void refresh(State state) {
            if (fresh) return;
            for (int b = state.brokerCount - 1; b > 0; b--) {
                gather(state, b, state.above[b]);
            }
            for (int b = 1; b < state.brokerCount; b++) {
                gather(state, state.above[b], b);
            }
            fresh = true;
        }

        private void gather(State state, int from, int to) {
            BoxList list = between(state, from, to);
            list.count = 0;
            int wishes = state.wishesOf(state.clientsHomeAt(from));
            for (int w = 0; w < state.wishCount; w++) {
                if (holds(wishes, w)) list.add(state.wishBoxes[w]);
            }
            for (int n = 0; n < state.brokerCount; n++) {
                if (n == to || !state.areNeighbours(n, from)) continue;
                BoxList heard = between(state, n, from);
                for (int i = 0; i < heard.count; i++) {
                    list.add(heard.boxes[i]);
                }
            }
            for (int turn = 0; turn < MAX_WISHES && list.count > state.mostTold; turn++) {
                list.add(list.cheapestJoin());
            }
        }
    }

    /** The way of one notice; its sets hold until the next travel. */
    private static final class Journey {
        private final int[] reached = new int[MAX_BROKERS];
        int places;
        int getters;
        int vain;
        int links;

        void travel(State state, Tellings tellings, int start, int notice) {
            int wishing = state.clientsWishing(notice);
            int useful = 1 << start;
            places = 1 << start;
            getters = 0;
            links = 0;
            reached[0] = start;
            for (int i = 0; i <= links && i < MAX_BROKERS; i++) {
                int here = reached[i];
                int gettingHere = wishing & state.clientsHomeAt(here);
                getters |= gettingHere;
                if (goOn(state, tellings, here, notice) || gettingHere != 0) useful |= 1 << here;
            }
            vain = places & ~useful;
        }

        // In a tree the only neighbour where the notice is already is the one from which it came.
        private boolean goOn(State state, Tellings tellings, int here, int notice) {
            int before = links;
            for (int n = 0; n < state.brokerCount && links < MAX_BROKERS - 1; n++) {
                boolean isNew = !holds(places, n);
                if (isNew && state.areNeighbours(n, here) && tellings.between(state, n, here).covers(notice)) {
                    places |= 1 << n;
                    links++;
                    reached[links] = n;
                }
            }
            return links > before;
        }
    }

    /** States ahead of the latest deeds, in a ring. */
    private static final class Past {
        private final State[] ring = new State[MAX_UNDONE];
        private int first;
        int count;

        Past() {
            for (int i = 0; i < MAX_UNDONE; i++) {
                ring[i] = new State();
            }
        }

        void remember(State now) {
            if (count == MAX_UNDONE) {
                first = (first + 1) % MAX_UNDONE;
                count--;
            }
            ring[(first + count) % MAX_UNDONE].copyFrom(now);
            count++;
        }

        /** There must be n deeds to undo. */
        void restore(State now, int n) {
            count -= n;
            now.copyFrom(ring[(first + count) % MAX_UNDONE]);
        }

        void forget() {
            count = 0;
        }
    }

    private static final class Book {
        private final int[] clientNumbers = new int[MAX_ENTRIES];
        private final int[] hads = new int[MAX_ENTRIES];
        int count;

        void add(int c, int had) {
            clientNumbers[count] = c;
            hads[count] = had;
            count++;
        }

        int firstWrong(State now) {
            for (int i = 0; i < count; i++) {
                int c = clientNumbers[i];
                if (!now.hasClient(c) || now.clients[c].had != hads[i]) return i;
            }
            return NONE;
        }
    }

    private static final class Draws {
        int value;

        int draw(int n) {
            value = (value * 1103515245 + 12345) & SEED_BITS;
            return n > 0 ? value / 65536 % n : 0;
        }
    }

    private static final class Image {
        private final State state = new State();
        private int seedValue;
        boolean taken;

        void take(State now, Draws draws) {
            state.copyFrom(now);
            seedValue = draws.value;
            taken = true;
        }

        void giveBack(State now, Draws draws) {
            now.copyFrom(state);
            draws.value = seedValue;
        }
    }
}
