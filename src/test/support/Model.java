import java.util.ArrayList;
import java.util.BitSet;
import java.util.List;
import java.util.TreeSet;

/**
 * The document read as plainly as can be, with no thought of room or speed:
 * a box is the set of all notices that fit it, told-on boxes are found by recursion,
 * each deed keeps a copy of everything ahead of it.
 */
public final class Model {
    private static final int NONE = -1, UNKNOWN = -1000000001, OUTSIDE = -1000000002, NOT = -1000000003,
            FULL = -1000000004;

    private static final class Box implements Comparable<Box> {
        final int[] bounds;
        final BitSet notices = new BitSet(1000);

        Box(int... bounds) {
            this.bounds = bounds;
            for (int notice = 0; notice < 1000; notice++) {
                int x = notice / 100, y = notice / 10 % 10, z = notice % 10;
                if (bounds[0] <= x && x <= bounds[1] && bounds[2] <= y && y <= bounds[3]
                        && bounds[4] <= z && z <= bounds[5]) {
                    notices.set(notice);
                }
            }
        }

        boolean covers(Box other) {
            BitSet beyond = (BitSet) other.notices.clone();
            beyond.andNot(notices);
            return beyond.isEmpty();
        }

        Box joinedWith(Box other) {
            int[] b = new int[6];
            for (int k = 0; k < 6; k++) {
                b[k] = k % 2 == 0 ? Math.min(bounds[k], other.bounds[k]) : Math.max(bounds[k], other.bounds[k]);
            }
            return new Box(b);
        }

        int wasteWith(Box other) {
            BitSet left = (BitSet) joinedWith(other).notices.clone();
            left.andNot(notices);
            left.andNot(other.notices);
            return left.cardinality();
        }

        @Override
        public int compareTo(Box other) {
            for (int k = 0; k < 6; k++) {
                if (bounds[k] != other.bounds[k]) {
                    return bounds[k] - other.bounds[k];
                }
            }
            return 0;
        }
    }

    private static final class Wish {
        final int client;
        final Box box;

        Wish(int client, Box box) {
            this.client = client;
            this.box = box;
        }
    }

    private static final class Client {
        int home, lost;
        boolean present = true;
        List<Integer> had = new ArrayList<>();
        List<Integer> kept = new ArrayList<>();

        Client copy() {
            Client c = new Client();
            c.home = home;
            c.lost = lost;
            c.present = present;
            c.had = new ArrayList<>(had);
            c.kept = new ArrayList<>(kept);
            return c;
        }
    }

    private static final class All {
        List<Integer> above = new ArrayList<>(List.of(NONE));
        List<Client> clients = new ArrayList<>();
        List<Wish> wishes = new ArrayList<>();
        int most = 9, next = 0, links = 0, vain = 0;

        All copy() {
            All a = new All();
            a.above = new ArrayList<>(above);
            for (Client c : clients) {
                a.clients.add(c.copy());
            }
            a.wishes = new ArrayList<>(wishes);
            a.most = most;
            a.next = next;
            a.links = links;
            a.vain = vain;
            return a;
        }
    }

    private All all = new All();
    private List<All> past = new ArrayList<>();
    private final List<int[]> book = new ArrayList<>();
    private final All[] images = new All[2];
    private final int[] imageSeeds = new int[2];
    private int seed = 0;
    private int wouldBe, wouldGet, wouldVain, wouldLinks;

    private boolean isBroker(int b) {
        return b >= 0 && b < all.above.size();
    }

    private boolean isClient(int c) {
        return c >= 0 && c < all.clients.size();
    }

    private boolean isWish(int w) {
        return w >= 0 && w < all.wishes.size();
    }

    private boolean neighbours(int a, int b) {
        return isBroker(a) && isBroker(b) && (all.above.get(a) == b || all.above.get(b) == a);
    }

    private static boolean said(int... things) {
        for (int thing : things) {
            if (thing < 0 || thing > 9) {
                return false;
            }
        }
        return true;
    }

    private List<Box> tellOn(int b, int n) {
        TreeSet<Box> found = new TreeSet<>();
        for (Wish w : all.wishes) {
            if (all.clients.get(w.client).home == b) {
                found.add(w.box);
            }
        }
        for (int other = 0; other < all.above.size(); other++) {
            if (other != n && neighbours(other, b)) {
                found.addAll(tellOn(other, b));
            }
        }
        List<Box> list = new ArrayList<>();
        for (Box one : found) {
            boolean covered = false;
            for (Box other : found) {
                covered |= other != one && other.covers(one);
            }
            if (!covered) {
                list.add(one);
            }
        }
        while (list.size() > all.most) {
            joinOnce(list);
        }
        return list;
    }

    private static void joinOnce(List<Box> list) {
        int least = 1001;
        Box joined = null;
        for (int i = 0; i < list.size(); i++) {
            for (int j = i + 1; j < list.size(); j++) {
                int waste = list.get(i).wasteWith(list.get(j));
                if (waste < least) {
                    least = waste;
                    joined = list.get(i).joinedWith(list.get(j));
                }
            }
        }
        Box come = joined;
        list.removeIf(come::covers);
        list.add(come);
        list.sort(null);
    }

    private void go(int here, int from, int notice) {
        wouldBe |= 1 << here;
        boolean useful = false;
        for (Wish w : all.wishes) {
            if (all.clients.get(w.client).home == here && w.box.notices.get(notice)) {
                wouldGet |= 1 << w.client;
                useful = true;
            }
        }
        for (int n = 0; n < all.above.size(); n++) {
            if (n == from || !neighbours(here, n)) {
                continue;
            }
            boolean fits = false;
            for (Box box : tellOn(n, here)) {
                fits |= box.notices.get(notice);
            }
            if (fits) {
                useful = true;
                wouldLinks++;
                go(n, here, notice);
            }
        }
        if (!useful && from != NONE) {
            wouldVain |= 1 << here;
        }
    }

    private void start(int b, int x, int y, int z) {
        wouldBe = 0;
        wouldGet = 0;
        wouldVain = 0;
        wouldLinks = 0;
        go(b, NONE, 100 * x + 10 * y + z);
    }

    private void deed() {
        past.add(all.copy());
        if (past.size() > 16) {
            past.remove(0);
        }
    }

    public int told(int what) {
        switch (what) {
            case 0: return all.above.size();
            case 1: return all.clients.size();
            case 2: return all.wishes.size();
            case 3: return all.most;
            case 4: return all.next;
            case 5: return allTold();
            case 6: return all.links;
            case 7: return all.vain;
            case 8: return book.size();
            case 9: return wrong();
            case 10: return past.size();
            case 11: return seed;
            default: return OUTSIDE;
        }
    }

    private int allTold() {
        int sum = 0;
        for (int b = 0; b < all.above.size(); b++) {
            for (int n = 0; n < all.above.size(); n++) {
                if (neighbours(b, n)) {
                    sum += tellOn(b, n).size();
                }
            }
        }
        return sum;
    }

    private int wrong() {
        for (int i = 0; i < book.size(); i++) {
            int[] entry = book.get(i);
            if (!isClient(entry[0]) || all.clients.get(entry[0]).had.size() != entry[1]) {
                return i;
            }
        }
        return NONE;
    }

    public int brokerAt(int b, int what) {
        if (!isBroker(b)) return UNKNOWN;
        if (what < 0 || what > 3) return OUTSIDE;
        if (what == 0) return all.above.get(b);
        int set = 0;
        if (what == 1) {
            for (int n = 0; n < 7; n++) {
                if (neighbours(b, n)) set += 1 << n;
            }
        } else if (what == 2) {
            for (int c = 0; c < all.clients.size(); c++) {
                if (all.clients.get(c).home == b) set += 1 << c;
            }
        } else {
            for (int w = 0; w < all.wishes.size(); w++) {
                if (all.clients.get(all.wishes.get(w).client).home == b) set += 1 << w;
            }
        }
        return set;
    }

    public int clientAt(int c, int what) {
        if (!isClient(c)) return UNKNOWN;
        if (what < 0 || what > 5) return OUTSIDE;
        Client one = all.clients.get(c);
        if (what < 5) return new int[] {one.home, one.present ? 1 : 0, one.had.size(), one.kept.size(), one.lost}[what];
        int set = 0;
        for (int w = 0; w < all.wishes.size(); w++) {
            if (all.wishes.get(w).client == c) set += 1 << w;
        }
        return set;
    }

    public int log(int c, int i) {
        if (!isClient(c)) return UNKNOWN;
        if (i < 0 || i > 11) return OUTSIDE;
        List<Integer> had = all.clients.get(c).had;
        return i < had.size() ? had.get(had.size() - 1 - i) : NONE;
    }

    public int wishAt(int w, int what) {
        if (!isWish(w)) return UNKNOWN;
        if (what < 0 || what > 8) return OUTSIDE;
        Wish one = all.wishes.get(w);
        if (what == 0) return one.client;
        if (what < 7) return one.box.bounds[what - 1];
        if (what == 7) return one.box.notices.cardinality();
        int set = 0;
        for (int v = 0; v < all.wishes.size(); v++) {
            if (v != w && one.box.covers(all.wishes.get(v).box)) set += 1 << v;
        }
        return set;
    }

    public int toldOn(int b, int n) {
        return neighbours(b, n) ? tellOn(b, n).size() : UNKNOWN;
    }

    public int box(int b, int n, int i, int what) {
        if (!neighbours(b, n)) return UNKNOWN;
        List<Box> list = tellOn(b, n);
        if (i < 0 || i >= list.size()) return UNKNOWN;
        if (what < 0 || what > 7) return OUTSIDE;
        Box one = list.get(i);
        if (what < 6) return one.bounds[what];
        if (what == 6) return one.notices.cardinality();
        for (Wish w : all.wishes) {
            if (w.box.notices.equals(one.notices)) return 1;
        }
        return 0;
    }

    public int would(int b, int x, int y, int z, int what) {
        if (!isBroker(b)) return UNKNOWN;
        if (!said(x, y, z) || what < 0 || what > 3) return OUTSIDE;
        start(b, x, y, z);
        return new int[] {wouldBe, wouldGet, wouldVain, wouldLinks}[what];
    }

    public int broker(int above) {
        if (!isBroker(above)) return UNKNOWN;
        if (all.above.size() == 7) return FULL;
        deed();
        all.above.add(above);
        return all.above.size() - 1;
    }

    public int client(int home) {
        if (!isBroker(home)) return UNKNOWN;
        if (all.clients.size() == 6) return FULL;
        deed();
        Client c = new Client();
        c.home = home;
        all.clients.add(c);
        return all.clients.size() - 1;
    }

    public int wish(int c, int kindX, int x, int kindY, int y, int kindZ, int z) {
        if (!isClient(c)) return UNKNOWN;
        int[] kinds = {kindX, kindY, kindZ}, vs = {x, y, z}, bounds = new int[6];
        for (int t = 0; t < 3; t++) {
            int v = vs[t];
            if (v < 0 || v > 9) return OUTSIDE;
            int[] fromTo;
            switch (kinds[t]) {
                case 0: fromTo = new int[] {0, 9}; break;
                case 1: fromTo = new int[] {0, v}; break;
                case 2: fromTo = new int[] {v, 9}; break;
                case 3: fromTo = new int[] {v, v}; break;
                default: return OUTSIDE;
            }
            bounds[2 * t] = fromTo[0];
            bounds[2 * t + 1] = fromTo[1];
        }
        if (all.wishes.size() == 12) return FULL;
        deed();
        all.wishes.add(new Wish(c, new Box(bounds)));
        return all.wishes.size() - 1;
    }

    public int drop(int w) {
        if (!isWish(w)) return UNKNOWN;
        deed();
        all.wishes.remove(w);
        return all.wishes.size();
    }

    public int most(int n) {
        if (n < 1 || n > 9) return OUTSIDE;
        deed();
        int was = all.most;
        all.most = n;
        return was;
    }

    public int put(int b, int x, int y, int z) {
        if (!isBroker(b)) return UNKNOWN;
        if (!said(x, y, z)) return OUTSIDE;
        deed();
        start(b, x, y, z);
        for (int c = 0; c < all.clients.size(); c++) {
            if ((wouldGet >> c) % 2 == 0) continue;
            Client one = all.clients.get(c);
            (one.present ? one.had : one.kept).add(all.next);
            if (one.kept.size() > 8) {
                one.kept.remove(0);
                one.lost++;
            }
        }
        all.next++;
        all.links += wouldLinks;
        all.vain += Integer.bitCount(wouldVain);
        return Integer.bitCount(wouldGet);
    }

    public int leave(int c) {
        if (!isClient(c)) return UNKNOWN;
        if (!all.clients.get(c).present) return NOT;
        deed();
        all.clients.get(c).present = false;
        return all.clients.get(c).home;
    }

    public int come(int c, int b) {
        if (!isClient(c) || !isBroker(b)) return UNKNOWN;
        if (all.clients.get(c).present) return NOT;
        deed();
        Client one = all.clients.get(c);
        int kept = one.kept.size();
        one.had.addAll(one.kept);
        one.kept.clear();
        one.present = true;
        one.home = b;
        return kept;
    }

    public int part() {
        if (all.clients.isEmpty()) return NOT;
        deed();
        int gone = all.clients.size() - 1;
        all.clients.remove(gone);
        all.wishes.removeIf(w -> w.client == gone);
        return gone;
    }

    private int draw(int n) {
        seed = (int) ((seed * 1103515245L + 12345L) % (1L << 31));
        return seed / 65536 % n;
    }

    public int drift(int n) {
        if (n < 1 || n > 8) return OUTSIDE;
        for (int i = 0; i < n; i++) {
            int b = draw(all.above.size()), x = draw(10), y = draw(10), z = draw(10);
            put(b, x, y, z);
        }
        return all.next;
    }

    public int undo(int n) {
        if (n < 1 || n > 16) return OUTSIDE;
        if (n > past.size()) return NOT;
        for (int i = 0; i < n; i++) {
            all = past.remove(past.size() - 1);
        }
        return past.size();
    }

    public int write(int c, int had) {
        if (!isClient(c)) return UNKNOWN;
        if (book.size() == 20) return FULL;
        book.add(new int[] {c, had});
        return book.size();
    }

    public int tear() {
        int had = book.size();
        book.clear();
        return had;
    }

    public int seed(int v) {
        if (v < 0) return OUTSIDE;
        int was = seed;
        seed = v;
        return was;
    }

    public int keep(int i) {
        if (i != 0 && i != 1) return UNKNOWN;
        images[i] = all.copy();
        imageSeeds[i] = seed;
        past = new ArrayList<>();
        return 1;
    }

    public int goBack(int i) {
        if (i != 0 && i != 1) return UNKNOWN;
        if (images[i] == null) return NOT;
        all = images[i].copy();
        seed = imageSeeds[i];
        past = new ArrayList<>();
        return 1;
    }
}
