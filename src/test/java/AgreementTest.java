import java.util.List;
import java.util.Random;
import java.util.TreeMap;

/** Long runs of calls, of ordinary and wrong ones, each answered by MineDesk as by PlainDesk. */
public final class AgreementTest {
    private static int wrong = 0;
    private static long calls = 0;
    // What the runs came by: a run that meets none of a kind would prove nothing of it.
    private static final TreeMap<String, Integer> met = new TreeMap<>();
    private static final List<String> TO_MEET = List.of("chord = 1", "chord = 2", "count(5) = -1", "count(5) = 0",
        "count(7) = 1", "follows = 0", "follows = 1", "follows = throws UnsupportedOperationException",
        "hint = 0", "make = 0", "make = 1", "open = 0", "open = 9", "reason(0) = 1", "reason(0) = 2", "reason(0) = 3",
        "reason(2) = 1", "share, limb 0", "share, limb 1", "undo = 0", "ways = -1");

    private interface Call { long ask(); }

    private static final class Pair {
        private final MineDesk desk = new MineDesk();
        private final PlainDesk plain = new PlainDesk();
        private final StringBuilder told = new StringBuilder();
        private int left = 512;

        boolean may() { return left > 0 && wrong == 0; }

        long same(String call, Call a, Call b) {
            if (!may()) return 0;
            left--;
            calls++;
            String got = answer(a), due = answer(b);
            told.append(call).append(" = ").append(got).append('\n');
            meet(call, got);
            if (!got.equals(due)) {
                wrong++;
                System.out.println(told + "but due is " + due);
            }
            return got.startsWith("throws") ? 0 : Long.parseLong(got);
        }

        private static void meet(String call, String got) {
            String name = call.substring(0, call.indexOf('('));
            boolean byArgument = name.equals("count") || name.equals("reason");
            met.merge((byArgument ? call : name) + " = " + got, 1, Integer::sum);
            if (name.equals("share") && !got.equals("0") && !got.startsWith("throws")) {
                met.merge("share, limb " + call.charAt(call.length() - 2), 1, Integer::sum);
            }
        }

        private static String answer(Call call) {
            try {
                return Long.toString(call.ask());
            } catch (IllegalStateException e) {
                return "throws IllegalStateException";
            } catch (IllegalArgumentException e) {
                return "throws IllegalArgumentException";
            } catch (IndexOutOfBoundsException e) {
                return "throws IndexOutOfBoundsException";
            } catch (UnsupportedOperationException e) {
                return "throws UnsupportedOperationException";
            }
        }

        int make(int w, int h, int mines, int shape, int seed, int grade) {
            return (int) same("make(" + w + ", " + h + ", " + mines + ", " + shape + ", " + seed + ", " + grade + ")",
                () -> desk.make(w, h, mines, shape, seed, grade), () -> plain.make(w, h, mines, shape, seed, grade));
        }
        void blank(int w, int h, int shape) {
            same("blank(" + w + ", " + h + ", " + shape + ")",
                () -> { desk.blank(w, h, shape); return 0; }, () -> { plain.blank(w, h, shape); return 0; });
        }
        void edit(int r, int c, boolean m) {
            same("edit(" + r + ", " + c + ", " + m + ")", () -> desk.edit(r, c, m), () -> plain.edit(r, c, m));
        }
        int open(int r, int c) {
            return (int) same("open(" + r + ", " + c + ")", () -> desk.open(r, c), () -> plain.open(r, c));
        }
        void flag(int r, int c) {
            same("flag(" + r + ", " + c + ")", () -> desk.flag(r, c) ? 1 : 0, () -> plain.flag(r, c) ? 1 : 0);
        }
        void chord(int r, int c) {
            same("chord(" + r + ", " + c + ")", () -> desk.chord(r, c), () -> plain.chord(r, c));
        }
        void undo() { same("undo()", desk::undo, plain::undo); }
        void shown(int r, int c) {
            same("shown(" + r + ", " + c + ")", () -> desk.shown(r, c), () -> plain.shown(r, c));
        }
        int hint() { return (int) same("hint()", desk::hint, plain::hint); }
        int reason(int what) {
            return (int) same("reason(" + what + ")", () -> desk.reason(what), () -> plain.reason(what));
        }
        void reasonCell(int k) {
            same("reasonCell(" + k + ")", () -> desk.reasonCell(k), () -> plain.reasonCell(k));
        }
        void follows(int r, int c, boolean m) {
            same("follows(" + r + ", " + c + ", " + m + ")",
                () -> desk.follows(r, c, m) ? 1 : 0, () -> plain.follows(r, c, m) ? 1 : 0);
        }
        void ways() { same("ways()", desk::ways, plain::ways); }
        void share(int r, int c, int part, int i) {
            same("share(" + r + ", " + c + ", " + part + ", " + i + ")",
                () -> desk.share(r, c, part, i), () -> plain.share(r, c, part, i));
        }
        void permille(int r, int c) {
            same("permille(" + r + ", " + c + ")", () -> desk.permille(r, c), () -> plain.permille(r, c));
        }
        int count(int what) {
            return (int) same("count(" + what + ")", () -> desk.count(what), () -> plain.count(what));
        }
    }

    private static final class Player {
        private final Random random;
        private final Pair pair = new Pair();
        private final int most;
        private int w = 5, h = 5;

        Player(long seed, int most) {
            random = new Random(seed);
            this.most = most;
        }

        void run() {
            for (int boards = 1 + random.nextInt(3); boards > 0; boards--) {
                begin();
                for (int i = 0, n = 20 + random.nextInt(140); i < n && pair.may(); i++) step();
            }
        }

        private void begin() {
            w = 3 + random.nextInt(most - 2);
            h = 3 + random.nextInt(most - 2);
            int shape = random.nextInt(4);
            int density = 3 + random.nextInt(8);
            if (random.nextInt(3) == 0) {
                pair.make(w, h, w * h / density, shape, random.nextInt(), 1 + random.nextInt(3));
                if (random.nextBoolean()) pair.open(h / 2, w / 2);
                return;
            }
            pair.blank(w, h, shape);
            for (int i = random.nextInt(w * h / density + 2); i > 0; i--) pair.edit(r(), c(), true);
        }

        /** Opens cells that are safe here and there, with many mines, so that the shares get long. */
        void scatter() {
            w = 9 + random.nextInt(4);
            h = 9 + random.nextInt(4) & ~1;
            pair.blank(w, h, random.nextInt(4));
            for (int i = w * h * (2 + random.nextInt(7)) / 10; i > 0; i--) pair.edit(random.nextInt(h), random.nextInt(w), true);
            for (int i = 3 + random.nextInt(12), tries = 0; i > 0 && tries < 200; tries++) {
                int r = random.nextInt(h), c = random.nextInt(w);
                if (!pair.plain.isSafe(r, c) || pair.plain.shown(r, c) != 10) continue;
                pair.open(r, c);
                i--;
            }
            pair.ways();
            for (int i = 0; i < 4; i++) {
                shareOf(random.nextInt(h), random.nextInt(w));
                pair.permille(random.nextInt(h), random.nextInt(w));
                takeHint();
            }
        }

        /** Opens pairs of cells whose neighbours meet, far from other pairs: the mines there are long uncertain. */
        void openPairs() {
            w = 10;
            h = 12;
            pair.blank(w, h, random.nextInt(4));
            for (int i = 60 + random.nextInt(80); i > 0; i--) {
                int r = random.nextInt(h), c = random.nextInt(w);
                pair.edit(r, c, r % 3 != 1 || c % 5 % 2 == 0);
            }
            for (int r = 1; r < h; r += 3) for (int c = 1; c < w; c += 5) {
                for (int k = 0; k < 4; k += 2) {
                    if (c + k < w && pair.plain.isSafe(r, c + k) && pair.plain.shown(r, c + k) == 10) pair.open(r, c + k);
                }
            }
            pair.ways();
            for (int i = 0; i < 6; i++) shareOf(random.nextInt(h), random.nextInt(w));
            takeHint();
        }

        /** Opens safe cells as long as no part of the border gets too long, so that the shares get as long as they can. */
        void crowd() {
            w = 12;
            h = 12;
            pair.blank(w, h, random.nextInt(3) == 0 ? 3 : 1);
            for (int i = 55 + random.nextInt(25); i > 0; i--) pair.edit(random.nextInt(h), random.nextInt(w), true);
            for (int tries = 0; tries < 60; tries++) {
                int r = random.nextInt(h), c = random.nextInt(w);
                if (!pair.plain.isSafe(r, c) || pair.plain.shown(r, c) != 10) continue;
                pair.open(r, c);
                if (pair.desk.ways() == MineDesk.NONE) pair.undo();
            }
            pair.ways();
            for (int i = 0; i < 6; i++) shareOf(random.nextInt(h), random.nextInt(w));
            takeHint();
        }

        /** Plays a made board by the hints, and lastly as the reasoner of the maker would. */
        void followHints() {
            w = 4 + random.nextInt(9);
            h = 4 + random.nextInt(9) & ~1;
            if (pair.make(w, h, w * h / (4 + random.nextInt(5)), random.nextInt(4), random.nextInt(), 1 + random.nextInt(3)) == 0) return;
            pair.open(h / 2, w / 2);
            for (int i = 0; i < 30; i++) takeHint();
            for (int i = 0; i <= 8; i++) pair.count(i);
        }

        /** Flags as many neighbours as a number says, but the wrong ones, and chords there. */
        void chordWrongly() {
            w = 3 + random.nextInt(3);
            h = 4;
            pair.blank(w, h, random.nextInt(4));
            for (int i = w * h / 2; i > 0; i--) pair.edit(random.nextInt(h), random.nextInt(w), true);
            for (int r = 0; r < h; r++) for (int c = 0; c < w; c++) {
                if (!pair.plain.isSafe(r, c) || pair.plain.shown(r, c) != 10) continue;
                int number = pair.open(r, c);
                for (int i = 0, tries = 0; i < number && tries < 40; tries++) {
                    int rr = Math.floorMod(r + random.nextInt(3) - 1, h), cc = Math.floorMod(c + random.nextInt(3) - 1, w);
                    if (pair.plain.shown(rr, cc) != 10 || tries < 30 && !pair.plain.isSafe(rr, cc)) continue;
                    pair.flag(rr, cc);
                    i++;
                }
                pair.chord(r, c);
                pair.count(5);
                pair.open(0, 0);
                pair.flag(0, 0);
                pair.hint();
                for (int i = random.nextInt(12); i > 0; i--) pair.undo();
            }
        }

        private int r() { return random.nextInt(40) == 0 ? random.nextInt(16) - 2 : random.nextInt(h); }
        private int c() { return random.nextInt(40) == 0 ? random.nextInt(16) - 2 : random.nextInt(w); }

        private void step() {
            switch (random.nextInt(22)) {
                case 0: case 1: case 2: pair.open(r(), c()); break;
                case 3: pair.flag(r(), c()); break;
                case 4: for (int i = 0; i < 6; i++) pair.chord(r(), c()); break;
                case 5: pair.undo(); break;
                case 6: for (int i = 0; i < 4; i++) pair.shown(r(), c()); break;
                case 7: case 8: case 9: case 10: case 11: takeHint(); break;
                case 12: pair.reason(random.nextInt(5) - 1); pair.reasonCell(random.nextInt(4) - 1); break;
                case 13: for (int i = 0; i < 4; i++) pair.follows(r(), c(), random.nextBoolean()); break;
                case 14: pair.ways(); break;
                case 15: shareOf(r(), c()); break;
                case 16: for (int i = 0; i < 4; i++) pair.permille(r(), c()); break;
                case 17: for (int i = -1; i <= 9; i++) pair.count(i); break;
                case 18: pair.edit(r(), c(), random.nextBoolean()); break;
                case 19: chordFlagged(); break;
                case 20: if (random.nextInt(8) == 0) for (int i = 0; i < 20; i++) pair.undo(); break;
                default: wrongBoard(); break;
            }
        }

        private void takeHint() {
            int hint = pair.hint();
            for (int k = 0; k < 3; k++) pair.reason(k);
            if (hint == 0) return;
            int cell = (hint - 1) / 2;
            for (int k = 0; k <= pair.plain.reason(1); k++) pair.reasonCell(k);
            pair.follows(cell / w, cell % w, hint % 2 == 0);
            pair.follows(cell / w, cell % w, hint % 2 == 1);
            if (hint % 2 == 0) pair.flag(cell / w, cell % w);
            else pair.open(cell / w, cell % w);
            if (random.nextBoolean()) pair.follows(r(), c(), random.nextBoolean());
        }

        private void shareOf(int r, int c) {
            for (int part = 0; part < 2; part++) for (int i = 0; i < 6; i++) pair.share(r, c, part, i);
            pair.share(r, c, random.nextInt(4) - 1, random.nextInt(10) - 1);
        }

        private void chordFlagged() {
            int r = random.nextInt(h), c = random.nextInt(w);
            for (int dr = -1; dr <= 1; dr++) for (int dc = -1; dc <= 1; dc++) {
                if (random.nextInt(4) == 0) pair.flag(Math.floorMod(r + dr, h), Math.floorMod(c + dc, w));
            }
            pair.chord(r, c);
        }

        private void wrongBoard() {
            if (random.nextBoolean()) pair.make(random.nextInt(15), h, random.nextInt(3) - 1, random.nextInt(6) - 1, 1, 4);
            else pair.blank(13, h, 0);
        }
    }

    public static void main(String[] args) {
        int runs = args.length > 0 ? Integer.parseInt(args[0]) : 60;
        int from = args.length > 1 ? Integer.parseInt(args[1]) : 0;
        for (int seed = from; seed < from + runs && wrong == 0; seed++) {
            new Player(seed, seed % 3 == 0 ? 12 : seed % 3 == 1 ? 7 : 4).run();
            new Player(seed, 12).scatter();
            new Player(seed, 12).followHints();
            new Player(seed, 12).chordWrongly();
            if (seed % 2 == 0) new Player(seed, 12).openPairs();
            else new Player(seed, 12).crowd();
        }
        for (String kind : TO_MEET) {
            if (args.length > 0) System.out.println(kind + ": " + met.getOrDefault(kind, 0));
            if (!met.containsKey(kind)) {
                wrong++;
                System.out.println("no run met " + kind);
            }
        }
        System.out.println(calls + " calls, " + wrong + " answers not as due");
        if (wrong != 0) System.exit(1);
    }
}
