import java.util.ArrayList;
import java.util.List;
import java.util.Random;

/**
 * Small boards, of which all ways to put mines are gone through one by one: what is answered of placements, hints,
 * reasons and what follows from them is so by the document's very words, without parts or formulas.
 */
public final class BruteForceTest {
    private static final int MOST_UNKNOWN = 13;
    private static final Checks checks = new Checks();
    private static int hinted = 0;

    /** What a player sees of a desk. */
    private static final class View {
        private final MineDesk desk;
        private final int w, h, shape;
        private final int[] shown;
        private final List<Integer> unknown = new ArrayList<>();
        private int left;

        View(MineDesk desk, int shape) {
            this.desk = desk;
            this.shape = shape;
            h = desk.count(0);
            w = desk.count(1);
            left = desk.count(2);
            shown = new int[w * h];
            for (int c = 0; c < w * h; c++) {
                shown[c] = desk.shown(c / w, c % w);
                if (shown[c] == 12) left--;
                if (shown[c] == 10 || shown[c] == 11) unknown.add(c);
            }
        }

        /** By where the cells lie: the rows of a comb are set off by half a cell, in turns. */
        private boolean near(int a, int b) {
            boolean comb = shape >= 2;
            int dy = Math.abs(a / w - b / w);
            int dx = Math.abs(across(a) - across(b));
            if (shape % 2 == 1) {
                dy = Math.min(dy, h - dy);
                dx = Math.min(dx, 2 * w - dx);
            }
            if (a == b || dy > 1) return false;
            return comb ? dx + dy == 2 : dx <= 2;
        }

        private int across(int cell) {
            return 2 * (cell % w) + (shape >= 2 ? cell / w % 2 : 0);
        }

        private List<Integer> numbers() {
            List<Integer> numbers = new ArrayList<>();
            for (int c = 0; c < w * h; c++) if (shown[c] <= 8) numbers.add(c);
            return numbers;
        }

        /** Bit k: the k-th unknown cell. */
        private int unknownsOf(int number) {
            int set = 0;
            for (int k = 0; k < unknown.size(); k++) if (near(number, unknown.get(k))) set |= 1 << k;
            return set;
        }

        private int rest(int number) {
            int rest = shown[number];
            for (int c = 0; c < w * h; c++) if (shown[c] == 12 && near(number, c)) rest--;
            return rest;
        }

        /** All ways to put mines on the unknown cells, or only on those next to the numbers, so that these are right. */
        private List<Integer> ways(List<Integer> numbers, boolean total) {
            int nextTo = 0;
            for (int n : numbers) nextTo |= unknownsOf(n);
            List<Integer> ways = new ArrayList<>();
            for (int mines = 0; mines < 1 << unknown.size(); mines++) {
                if (total ? Integer.bitCount(mines) != left : (mines & ~nextTo) != 0) continue;
                boolean right = true;
                for (int n : numbers) right &= Integer.bitCount(mines & unknownsOf(n)) == rest(n);
                if (right) ways.add(mines);
            }
            return ways;
        }

        private boolean follows(List<Integer> numbers, boolean total, int k, boolean mined) {
            int nextTo = 0;
            for (int n : numbers) nextTo |= unknownsOf(n);
            if (!total && (nextTo >> k & 1) == 0) return false;
            for (int way : ways(numbers, total)) if ((way >> k & 1) == 1 != mined) return false;
            return true;
        }
    }

    public static void main(String[] args) {
        int boards = args.length > 0 ? Integer.parseInt(args[0]) : 400;
        for (int seed = 0; seed < boards; seed++) {
            oneBoard(seed);
        }
        checks.about("all boards");
        checks.due("a third of them has a hint", true, hinted * 3 >= boards);
        checks.end();
    }

    private static void oneBoard(int seed) {
        Random random = new Random(seed);
        int shape = random.nextInt(4), w = 3 + random.nextInt(3), h = 3 + random.nextInt(3);
        if (shape == 3) h = 4;
        MineDesk desk = new MineDesk();
        desk.blank(w, h, shape);
        for (int i = 1 + random.nextInt(w * h / 2); i > 0; i--) desk.edit(random.nextInt(h), random.nextInt(w), true);
        int unknown = w * h;
        for (int tries = 0; tries < 60 && desk.count(5) > 0; tries++) {
            int r = random.nextInt(h), c = random.nextInt(w);
            if (desk.shown(r, c) != 10) continue;
            if (desk.open(r, c) == 9 && random.nextInt(4) > 0) desk.undo();
            unknown = new View(desk, shape).unknown.size();
            if (unknown <= MOST_UNKNOWN && random.nextInt(3) == 0) break;
        }
        if (unknown == 0 || unknown > MOST_UNKNOWN) return;
        checks.about("board " + seed);
        for (int i = random.nextInt(4); i > 0 && desk.count(5) > 0; i--) {
            int r = random.nextInt(h), c = random.nextInt(w);
            if (desk.shown(r, c) >= 10 && desk.shown(r, c) <= 11) desk.flag(r, c);
        }
        View view = new View(desk, shape);
        shares(view);
        hint(view);
    }

    private static void shares(View view) {
        List<Integer> all = view.ways(view.numbers(), true);
        checks.due("ways", all.size(), view.desk.ways());
        for (int k = 0; k < view.unknown.size(); k++) {
            int r = view.unknown.get(k) / view.w, c = view.unknown.get(k) % view.w, mined = 0;
            for (int way : all) mined += way >> k & 1;
            int divisor = divisor(mined, all.size());
            checks.due("share of cell " + view.unknown.get(k), mined / divisor + "/" + all.size() / divisor, Desks.share(view.desk, r, c));
            checks.due("permille of cell " + view.unknown.get(k), mined * 1000 / all.size(), view.desk.permille(r, c));
        }
    }

    private static int divisor(int a, int b) {
        return b == 0 ? a : divisor(b, a % b);
    }

    private static void hint(View view) {
        int hint = view.desk.hint();
        List<Integer> reason = new ArrayList<>();
        for (int k = 0; k < view.desk.reason(1); k++) reason.add(view.desk.reasonCell(k));
        boolean total = view.desk.reason(2) == 1;
        int first = firstSure(view);
        if (hint == 0) {
            checks.due("nothing is sure", 0, first);
            return;
        }
        hinted++;
        int k = view.unknown.indexOf((hint - 1) / 2);
        boolean mined = hint % 2 == 0;
        if (view.desk.reason(0) == 3) checks.due("the first that is sure", first, hint);
        checks.due("sure", true, view.follows(view.numbers(), true, k, mined));
        checks.due("follows from its reason", true, view.follows(reason, total, k, mined));
        checks.due("has the total when it must", !view.follows(view.numbers(), false, k, mined), total);
        for (int n : reason) {
            List<Integer> fewer = new ArrayList<>(reason);
            fewer.remove(Integer.valueOf(n));
            checks.due("needs number " + n, false, view.follows(fewer, total, k, mined));
        }
        for (int other = 0; other < view.unknown.size(); other++) {
            int r = view.unknown.get(other) / view.w, c = view.unknown.get(other) % view.w;
            for (boolean as : new boolean[] {true, false}) {
                checks.due("follows of " + r + ", " + c + ", " + as, view.follows(reason, total, other, as), view.desk.follows(r, c, as));
            }
        }
    }

    private static int firstSure(View view) {
        for (int k = 0; k < view.unknown.size(); k++) {
            int cell = view.unknown.get(k);
            if (view.follows(view.numbers(), true, k, false)) return 1 + 2 * cell;
            if (view.follows(view.numbers(), true, k, true) && view.shown[cell] != 11) return 2 + 2 * cell;
        }
        return 0;
    }
}
