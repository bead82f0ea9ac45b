import java.math.BigInteger;
import java.util.ArrayDeque;
import java.util.ArrayList;
import java.util.Arrays;
import java.util.Deque;
import java.util.List;
import java.util.TreeSet;

/**
 * The document's words as plainly as they can be written, without a thought of speed or of the language rules:
 * what MineDesk is compared with. It goes other ways than MineDesk wherever there are two.
 */
final class PlainDesk {
    private static final int CLOSED = 10, FLAGGED = 11, HIT = 12, OPEN = 0;
    private static final BigInteger ZERO = BigInteger.ZERO, ONE = BigInteger.ONE;

    private boolean board, blank;
    private int w, h, shape;
    private boolean[] mine;
    private int[] state;
    private final Deque<int[]> before = new ArrayDeque<>();
    private int hintGrade;
    private boolean hintTotal;
    private List<Integer> hintNumbers = new ArrayList<>();
    private int shifts;

    int make(int w, int h, int mines, int shape, int seed, int grade) {
        if (!possible(w, h, shape) || mines <= 0 || grade < 1 || grade > 3) throw new IllegalArgumentException();
        PlainDesk other = new PlainDesk();
        other.blank(w, h, shape);
        int first = h / 2 * w + w / 2;
        TreeSet<Integer> free = new TreeSet<>();
        for (int c = 0; c < w * h; c++) if (c != first && !other.near(first).contains(c)) free.add(c);
        if (mines > free.size()) throw new IllegalArgumentException();
        long x = seed & 0x7fffffffL;
        for (int i = 0; i < mines; i++) {
            x = (1103515245L * x + 12345) & 0x7fffffffL;
            int cell = new ArrayList<>(free).get((int) (x / 65536 % free.size()));
            other.mine[cell] = true;
            free.remove(cell);
        }
        boolean made = other.settle(first, grade, 100);
        blank(w, h, shape);
        shifts = other.shifts;
        mine = other.mine;
        blank = false;
        board = made;
        return made ? 1 : 0;
    }

    private boolean settle(int first, int grade, int mostShifts) {
        for (shifts = 0; ; shifts++) {
            Arrays.fill(state, CLOSED);
            opening(first);
            while (openFoundSafe(grade)) { }
            if (count(7) == 1) return true;
            if (shifts == mostShifts) return false;
            int from = -1, to = -1;
            for (int c = w * h - 1; c >= 0; c--) {
                boolean nextToNumber = near(c).stream().anyMatch(o -> state[o] == OPEN);
                if (unknown(c) && mine[c] && nextToNumber) from = c;
                if (unknown(c) && !mine[c] && !nextToNumber) to = c;
            }
            if (from < 0 || to < 0) return false;
            mine[from] = false;
            mine[to] = true;
        }
    }

    private boolean openFoundSafe(int grade) {
        for (int g = 1; g <= grade; g++) {
            char[] found = found(g);
            boolean any = false;
            for (int c = 0; c < w * h; c++) any |= found[c] == 's';
            for (int c = 0; c < w * h; c++) if (found[c] == 's' && unknown(c)) opening(c);
            if (any) return true;
        }
        return false;
    }

    void blank(int w, int h, int shape) {
        if (!possible(w, h, shape)) throw new IllegalArgumentException();
        this.w = w;
        this.h = h;
        this.shape = shape;
        mine = new boolean[w * h];
        state = new int[w * h];
        Arrays.fill(state, CLOSED);
        before.clear();
        forgetHint();
        board = true;
        blank = true;
    }

    int edit(int r, int c, boolean m) {
        int cell = at(r, c);
        if (!blank || !before.isEmpty()) throw new UnsupportedOperationException();
        mine[cell] = m;
        return mines();
    }

    int open(int r, int c) {
        int cell = at(r, c);
        if (state[cell] != CLOSED || lives() <= 0) throw new UnsupportedOperationException();
        before.push(state.clone());
        opening(cell);
        return mine[cell] ? 9 : number(cell);
    }

    boolean flag(int r, int c) {
        int cell = at(r, c);
        if (!unknown(cell) || lives() <= 0) throw new UnsupportedOperationException();
        before.push(state.clone());
        state[cell] = state[cell] == CLOSED ? FLAGGED : CLOSED;
        return state[cell] == FLAGGED;
    }

    int chord(int r, int c) {
        int cell = at(r, c);
        if (state[cell] != OPEN || lives() <= 0) throw new UnsupportedOperationException();
        int told = 0, closed = 0;
        for (int o : near(cell)) {
            if (state[o] == FLAGGED || state[o] == HIT) told++;
            if (state[o] == CLOSED) closed++;
        }
        if (closed == 0 || told != number(cell)) throw new UnsupportedOperationException();
        before.push(state.clone());
        int was = unknowns().size();
        for (int o : near(cell)) if (state[o] == CLOSED) opening(o);
        return was - unknowns().size();
    }

    int undo() {
        need();
        if (before.isEmpty()) throw new UnsupportedOperationException();
        state = before.pop();
        return before.size();
    }

    int shown(int r, int c) {
        int cell = at(r, c);
        return state[cell] == OPEN ? number(cell) : state[cell];
    }

    int hint() {
        need();
        forgetHint();
        for (int g = 1; g <= 3; g++) {
            char[] found = found(g);
            for (int c = 0; c < w * h; c++) {
                if (unknown(c) && (found[c] == 's' || found[c] == 'm' && state[c] != FLAGGED)) {
                    hintGrade = g;
                    explain(c, found[c] == 'm');
                    return 1 + 2 * c + (found[c] == 'm' ? 1 : 0);
                }
            }
        }
        return 0;
    }

    private void forgetHint() {
        hintGrade = 0;
        hintTotal = false;
        hintNumbers = new ArrayList<>();
    }

    private void explain(int cell, boolean mined) {
        List<Integer> all = telling();
        List<Integer> ofPart = new ArrayList<>();
        for (TreeSet<Integer> part : parts(all)) {
            if (part.contains(cell)) for (int n : all) if (near(n).stream().anyMatch(part::contains)) ofPart.add(n);
        }
        if (tooLong(all)) {
            hintNumbers = ofPart;
            return;
        }
        hintTotal = !following(ofPart, false, cell, mined);
        hintNumbers = hintTotal ? all : ofPart;
        for (int k = hintNumbers.size() - 1; k >= 0; k--) {
            List<Integer> fewer = new ArrayList<>(hintNumbers);
            fewer.remove(k);
            if (following(fewer, hintTotal, cell, mined)) hintNumbers = fewer;
        }
    }

    int reason(int what) {
        need();
        if (what == 0) return hintGrade;
        if (what == 1) return hintNumbers.size();
        if (what == 2) return hintTotal ? 1 : 0;
        throw new IndexOutOfBoundsException();
    }

    int reasonCell(int k) {
        need();
        return hintNumbers.get(k);
    }

    boolean follows(int r, int c, boolean mined) {
        int cell = at(r, c);
        List<Integer> numbers = new ArrayList<>();
        for (int n : hintNumbers) if (state[n] == OPEN) numbers.add(n);
        if (!unknown(cell) || tooLong(numbers)) throw new UnsupportedOperationException();
        return following(numbers, hintTotal, cell, mined);
    }

    int ways() {
        need();
        if (tooLong(telling())) return -1;
        return placements(telling(), -1, false).mod(BigInteger.valueOf(1000000007)).intValue();
    }

    int share(int r, int c, int part, int i) {
        int cell = at(r, c);
        if (part < 0 || part > 1 || i < 0 || i > 7) throw new IndexOutOfBoundsException();
        BigInteger[] f = fraction(cell);
        BigInteger d = f[0].gcd(f[1]);
        return f[part].divide(d).shiftRight(31 * i).and(BigInteger.valueOf(0x7fffffff)).intValue();
    }

    int permille(int r, int c) {
        BigInteger[] f = fraction(at(r, c));
        return f[0].multiply(BigInteger.valueOf(1000)).divide(f[1]).intValue();
    }

    private BigInteger[] fraction(int cell) {
        if (!unknown(cell) || tooLong(telling())) throw new UnsupportedOperationException();
        BigInteger m = placements(telling(), cell, true);
        BigInteger all = m.add(placements(telling(), cell, false));
        if (all.signum() == 0) throw new UnsupportedOperationException();
        return new BigInteger[] {m, all};
    }

    int count(int what) {
        need();
        int opened = 0, flagged = 0;
        for (int s : state) {
            if (s == OPEN) opened++;
            if (s == FLAGGED) flagged++;
        }
        switch (what) {
            case 0: return h;
            case 1: return w;
            case 2: return mines();
            case 3: return opened;
            case 4: return flagged;
            case 5: return lives();
            case 6: return before.size();
            case 7: return opened + mines() == w * h ? 1 : 0;
            case 8: return leastOpenings();
            default: throw new IndexOutOfBoundsException();
        }
    }

    /** Opens for real, zeros first: a cell next to a zero is never worth an opening of its own. */
    private int leastOpenings() {
        int[] kept = state.clone();
        int n = 0;
        for (int pass = 0; pass < 2; pass++) {
            for (int c = 0; c < w * h; c++) {
                if (!mine[c] && unknown(c) && (pass == 1 || number(c) == 0)) {
                    opening(c);
                    n++;
                }
            }
        }
        state = kept;
        return n;
    }

    /** How often a mine is shifted until such a board is made, if that may be done without a limit; or -1. */
    static int shiftsNeeded(int shape, int grade, String... rows) {
        PlainDesk desk = new PlainDesk();
        desk.blank(rows[0].length(), rows.length, shape);
        for (int c = 0; c < desk.mine.length; c++) desk.mine[c] = rows[c / desk.w].charAt(c % desk.w) == 'x';
        return desk.settle(desk.h / 2 * desk.w + desk.w / 2, grade, 10000) ? desk.shifts : -1;
    }

    /** How often a mine was shifted by the latest make(). */
    int shifts() {
        return shifts;
    }

    /** For a player that knows where the mines are. */
    boolean isSafe(int r, int c) {
        return !mine[r * w + c];
    }

    private void need() {
        if (!board) throw new IllegalStateException();
    }

    private int at(int r, int c) {
        need();
        if (r < 0 || c < 0 || r >= h || c >= w) throw new IndexOutOfBoundsException();
        return r * w + c;
    }

    private static boolean possible(int w, int h, int shape) {
        if (w < 3 || w > 12 || h < 3 || h > 12 || shape < 0 || shape > 3) return false;
        return shape != 3 || h % 2 == 0 && h >= 4;
    }

    private TreeSet<Integer> near(int cell) {
        int r = cell / w, c = cell % w;
        int slant = r % 2 == 0 ? -1 : 1;
        int[][] steps = shape < 2
            ? new int[][] {{-1, -1}, {-1, 0}, {-1, 1}, {0, -1}, {0, 1}, {1, -1}, {1, 0}, {1, 1}}
            : new int[][] {{0, -1}, {0, 1}, {-1, 0}, {-1, slant}, {1, 0}, {1, slant}};
        TreeSet<Integer> near = new TreeSet<>();
        for (int[] s : steps) {
            int rr = r + s[0], cc = c + s[1];
            if (shape % 2 == 1) {
                rr = Math.floorMod(rr, h);
                cc = Math.floorMod(cc, w);
            }
            if (rr >= 0 && rr < h && cc >= 0 && cc < w) near.add(rr * w + cc);
        }
        return near;
    }

    private int number(int cell) {
        int n = 0;
        for (int o : near(cell)) if (mine[o]) n++;
        return n;
    }

    private int mines() {
        int n = 0;
        for (boolean m : mine) if (m) n++;
        return n;
    }

    private int hits() {
        int n = 0;
        for (int s : state) if (s == HIT) n++;
        return n;
    }

    private int lives() {
        return 3 - hits();
    }

    private boolean unknown(int cell) {
        return state[cell] == CLOSED || state[cell] == FLAGGED;
    }

    private TreeSet<Integer> unknowns() {
        TreeSet<Integer> all = new TreeSet<>();
        for (int c = 0; c < w * h; c++) if (unknown(c)) all.add(c);
        return all;
    }

    private TreeSet<Integer> unknowns(int number) {
        TreeSet<Integer> its = near(number);
        its.removeIf(c -> !unknown(c));
        return its;
    }

    private int rest(int number) {
        int n = number(number);
        for (int o : near(number)) if (state[o] == HIT) n--;
        return n;
    }

    private void opening(int cell) {
        if (mine[cell]) {
            state[cell] = HIT;
            return;
        }
        state[cell] = OPEN;
        if (number(cell) == 0) for (int o : near(cell)) if (unknown(o) && !mine[o]) opening(o);
    }

    private List<Integer> telling() {
        List<Integer> numbers = new ArrayList<>();
        for (int c = 0; c < w * h; c++) if (state[c] == OPEN && !unknowns(c).isEmpty()) numbers.add(c);
        return numbers;
    }

    private char[] found(int grade) {
        char[] found = new char[w * h];
        List<Integer> numbers = telling();
        if (grade == 3) {
            if (tooLong(numbers)) return found;
            for (int c : unknowns()) {
                if (placements(numbers, c, true).signum() == 0) found[c] = 's';
                else if (placements(numbers, c, false).signum() == 0) found[c] = 'm';
            }
            return found;
        }
        for (boolean more = true; more; ) {
            more = false;
            for (int a : numbers) {
                TreeSet<Integer> ends = ends(a, found);
                int need = need(a, found);
                if (need == 0) more |= mark(found, ends, 's');
                else if (need == ends.size()) more |= mark(found, ends, 'm');
                for (int b : numbers) {
                    TreeSet<Integer> others = ends(b, found);
                    ends = ends(a, found);
                    if (grade < 2 || !others.containsAll(ends)) continue;
                    others.removeAll(ends);
                    int more2 = need(b, found) - need(a, found);
                    if (more2 == 0) more |= mark(found, others, 's');
                    else if (more2 == others.size()) more |= mark(found, others, 'm');
                }
            }
        }
        return found;
    }

    private TreeSet<Integer> ends(int number, char[] found) {
        TreeSet<Integer> ends = unknowns(number);
        ends.removeIf(c -> found[c] != 0);
        return ends;
    }

    private int need(int number, char[] found) {
        int need = rest(number);
        for (int c : unknowns(number)) if (found[c] == 'm') need--;
        return need;
    }

    private static boolean mark(char[] found, TreeSet<Integer> cells, char verdict) {
        for (int c : cells) found[c] = verdict;
        return !cells.isEmpty();
    }

    /** Joins the unknowns of each number with whatever sets they meet. */
    private List<TreeSet<Integer>> parts(List<Integer> numbers) {
        List<TreeSet<Integer>> parts = new ArrayList<>();
        for (int n : numbers) {
            TreeSet<Integer> joined = unknowns(n);
            if (joined.isEmpty()) continue;
            List<TreeSet<Integer>> apart = new ArrayList<>();
            for (TreeSet<Integer> p : parts) {
                if (unknowns(n).stream().anyMatch(p::contains)) joined.addAll(p);
                else apart.add(p);
            }
            apart.add(joined);
            parts = apart;
        }
        return parts;
    }

    private boolean tooLong(List<Integer> numbers) {
        return parts(numbers).stream().anyMatch(p -> p.size() > 16);
    }

    private boolean following(List<Integer> numbers, boolean total, int cell, boolean mined) {
        if (total) return placements(numbers, cell, !mined).signum() == 0;
        for (TreeSet<Integer> part : parts(numbers)) {
            if (part.contains(cell)) {
                for (BigInteger n : byMines(part, numbers, cell, !mined)) if (n.signum() != 0) return false;
                return true;
            }
        }
        return false;
    }

    /** Ways to put the mines left on the unknown cells, so that the numbers are right and the cell is as said. */
    private BigInteger placements(List<Integer> numbers, int cell, boolean mined) {
        TreeSet<Integer> free = unknowns();
        BigInteger[] ways = {ONE};
        for (TreeSet<Integer> part : parts(numbers)) {
            free.removeAll(part);
            ways = product(ways, byMines(part, numbers, cell, mined));
        }
        for (int c : free) {
            BigInteger[] one = {c == cell && mined ? ZERO : ONE, c == cell && !mined ? ZERO : ONE};
            ways = product(ways, one);
        }
        int left = mines() - hits();
        return left < ways.length ? ways[left] : ZERO;
    }

    private BigInteger[] byMines(TreeSet<Integer> part, List<Integer> numbers, int cell, boolean mined) {
        List<Integer> cells = new ArrayList<>(part);
        List<Integer> ruling = new ArrayList<>();
        for (int n : numbers) if (unknowns(n).stream().anyMatch(part::contains)) ruling.add(n);
        int[] masks = new int[ruling.size()];
        int[] rests = new int[ruling.size()];
        for (int i = 0; i < masks.length; i++) {
            for (int c : unknowns(ruling.get(i))) masks[i] |= 1 << cells.indexOf(c);
            rests[i] = rest(ruling.get(i));
        }
        int fixed = part.contains(cell) ? 1 << cells.indexOf(cell) : 0;
        BigInteger[] ways = new BigInteger[cells.size() + 1];
        Arrays.fill(ways, ZERO);
        next:
        for (int set = 0; set < 1 << cells.size(); set++) {
            if ((set & fixed) != (mined ? fixed : 0)) continue;
            for (int i = 0; i < masks.length; i++) if (Integer.bitCount(set & masks[i]) != rests[i]) continue next;
            int m = Integer.bitCount(set);
            ways[m] = ways[m].add(ONE);
        }
        return ways;
    }

    private static BigInteger[] product(BigInteger[] a, BigInteger[] b) {
        BigInteger[] all = new BigInteger[a.length + b.length - 1];
        Arrays.fill(all, ZERO);
        for (int i = 0; i < a.length; i++) {
            for (int j = 0; j < b.length; j++) all[i + j] = all[i + j].add(a[i].multiply(b[j]));
        }
        return all;
    }
}
