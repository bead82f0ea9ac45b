/** The boundary cases that the document's terms name: for each such sentence a test of its own. */
public final class BoundaryTermsTest {
    private static final Class<IllegalArgumentException> ARGUMENT = IllegalArgumentException.class;
    private static final Class<IndexOutOfBoundsException> BOUNDS = IndexOutOfBoundsException.class;
    private static final Class<UnsupportedOperationException> UNSUPPORTED = UnsupportedOperationException.class;
    private static final Checks checks = new Checks();

    public static void main(String[] args) throws ReflectiveOperationException {
        boards();
        shapes();
        cells();
        opening();
        livesAndEnds();
        placements();
        grades();
        border();
        hints();
        reasons();
        reasonsOfALongBorder();
        making();
        makingByGrades();
        makingByShifts();
        moves();
        checks.end();
    }

    private static void about(String words) {
        checks.about(words);
    }

    private static void due(String what, Object want, Object got) {
        checks.due(what, want, got);
    }

    private static void dueThrow(String what, Class<? extends RuntimeException> want, Checks.Call call) {
        checks.dueThrow(what, want, call);
    }

    private static MineDesk board(int shape, String... rows) {
        return Desks.board(shape, rows);
    }

    private static void boards() {
        about("An object is used for at most 512 calls after it has been made");
        lastCall();
        about("BOARDS have h rows of w CELLS (3 .. 12 each)");
        int[] sides = {Integer.MIN_VALUE, -3, 0, 2, 3, 4, 11, 12, 13, 15, Integer.MAX_VALUE};
        for (int shape = 0; shape < 4; shape++) for (int w : sides) for (int h : sides) oneSize(w, h, shape);
        about("told by row and column from 0");
        MineDesk desk = new MineDesk();
        desk.blank(12, 3, 0);
        due("first cell", 10, desk.shown(0, 0));
        due("last cell", 10, desk.shown(2, 11));
        dueThrow("a row too many", BOUNDS, () -> desk.shown(3, 0));
        dueThrow("a column too many", BOUNDS, () -> desk.shown(0, 12));
        desk.blank(3, 12, 0);
        due("last cell of a high board", 10, desk.shown(11, 2));
        dueThrow("a column too many of a high board", BOUNDS, () -> desk.shown(2, 3));
        about("in reading order by row * w + column");
        MineDesk wide = board(0, "--------x", "---------", "---------");
        wide.open(2, 0);
        due("the cell of a hint", 2 + 2 * 8, wide.hint());
        due("the cells of a reason", "grade 1: 7", Desks.reason(wide));
        MineDesk high = board(0, "---", "---", "---", "---", "--x");
        high.open(0, 0);
        due("the cell of a hint on a high board", 2 + 2 * 14, high.hint());
        due("the cells of a reason on a high board", "grade 1: 10", Desks.reason(high));
    }

    private static void lastCall() {
        MineDesk desk = new MineDesk();
        desk.blank(12, 12, 1);
        for (int i = 0; i < 509; i++) desk.flag(i % 144 / 12, i % 12);
        due("the 511th call", 509, desk.count(6));
        due("the 512th call", 508, desk.undo());
    }

    private static void oneSize(int w, int h, int shape) {
        boolean possible = w >= 3 && w <= 12 && h >= 3 && h <= 12 && (shape < 3 || h % 2 == 0);
        boolean makeable = possible && (w > 3 || h > 3 || shape > 1);
        String told = w + " by " + h + ", shape " + shape;
        MineDesk desk = new MineDesk();
        if (possible) {
            desk.blank(w, h, shape);
            due(told, h + " " + w, desk.count(0) + " " + desk.count(1));
        } else {
            dueThrow(told, ARGUMENT, () -> { desk.blank(w, h, shape); return 0; });
        }
        if (!makeable) dueThrow("make " + told, ARGUMENT, () -> desk.make(w, h, 1, shape, 1, 3));
        else if (desk.make(w, h, 1, shape, 1, 3) == 1) due("make " + told, h + " " + w, desk.count(0) + " " + desk.count(1));
    }

    private static void shapes() {
        about("0 PLANE: a cell's NEIGHBOURS are the up to eight around it");
        due("first corner", "1 4 5", Desks.near(0, 4, 4, 0));
        due("corner", "2 6 7", Desks.near(0, 4, 4, 3));
        due("corner", "8 9 13", Desks.near(0, 4, 4, 12));
        due("last corner", "10 11 14", Desks.near(0, 4, 4, 15));
        due("upper side", "0 2 4 5 6", Desks.near(0, 4, 4, 1));
        due("left side", "0 1 5 8 9", Desks.near(0, 4, 4, 4));
        due("right side", "2 3 6 10 11", Desks.near(0, 4, 4, 7));
        due("inside", "0 1 2 4 6 8 9 10", Desks.near(0, 4, 4, 5));
        about("1 RING: likewise, row 0 being next to the last one, column 0 to the last one");
        due("first corner", "1 3 4 5 7 12 13 15", Desks.near(1, 4, 4, 0));
        due("last corner", "0 2 3 8 10 11 12 14", Desks.near(1, 4, 4, 15));
        due("upper side", "0 2 4 5 6 12 13 14", Desks.near(1, 4, 4, 1));
        due("left side", "0 1 3 5 7 8 9 11", Desks.near(1, 4, 4, 4));
        due("inside", "0 1 2 4 6 8 9 10", Desks.near(1, 4, 4, 5));
        due("three by three: each next to all others", "1 2 3 4 5 6 7 8", Desks.near(1, 3, 3, 0));
        due("three columns", "1 2 3 4 5 12 13 14", Desks.near(1, 3, 5, 0));
        due("three rows", "1 4 5 6 9 10 11 14", Desks.near(1, 5, 3, 0));
        due("twelve by twelve", "1 11 12 13 23 132 133 143", Desks.near(1, 12, 12, 0));
        about("2 COMB: the up to six: left and right, and in the rows above and below those of its column and,"
            + " in even rows, of the column before, in odd rows of the column behind");
        due("row 0, first column", "1 4", Desks.near(2, 4, 4, 0));
        due("row 0, last column", "2 6 7", Desks.near(2, 4, 4, 3));
        due("odd row, first column", "0 1 5 8 9", Desks.near(2, 4, 4, 4));
        due("odd row, inside", "1 2 4 6 9 10", Desks.near(2, 4, 4, 5));
        due("odd row, last column", "3 6 11", Desks.near(2, 4, 4, 7));
        due("even row, first column", "4 9 12", Desks.near(2, 4, 4, 8));
        due("even row, inside", "4 5 8 10 12 13", Desks.near(2, 4, 4, 9));
        due("even row, last column", "6 7 10 14 15", Desks.near(2, 4, 4, 11));
        due("last row, first column", "8 9 13", Desks.near(2, 4, 4, 12));
        due("last row, last column", "11 14", Desks.near(2, 4, 4, 15));
        due("last row of an odd height", "3 7", Desks.near(2, 3, 3, 6));
        about("3 COMB RING: likewise in a ring (h is even, at least 4)");
        due("first corner", "1 3 4 7 12 15", Desks.near(3, 4, 4, 0));
        due("row 0, last column", "0 2 6 7 14 15", Desks.near(3, 4, 4, 3));
        due("odd row, last column", "0 3 4 6 8 11", Desks.near(3, 4, 4, 7));
        due("last row, first column", "0 1 8 9 13 15", Desks.near(3, 4, 4, 12));
        due("last corner", "0 3 8 11 12 14", Desks.near(3, 4, 4, 15));
        due("three columns", "1 2 3 5 9 11", Desks.near(3, 3, 4, 0));
        due("twelve by twelve", "0 11 120 131 132 142", Desks.near(3, 12, 12, 143));
        for (int h = 3; h <= 12; h++) {
            int height = h;
            MineDesk desk = new MineDesk();
            if (h % 2 == 1) dueThrow(h + " rows", ARGUMENT, () -> { desk.blank(5, height, 3); return 0; });
            else due(h + " rows", h, rowsOfCombRing(desk, h));
            if (h % 2 == 1) dueThrow("make " + h + " rows", ARGUMENT, () -> desk.make(5, height, 1, 3, 1, 3));
        }
    }

    private static int rowsOfCombRing(MineDesk desk, int h) {
        desk.blank(5, h, 3);
        return desk.count(0);
    }

    private static void cells() {
        about("A cell's NUMBER is how many of its neighbours have one");
        String[] pictures = {"---------", "x--------", "xx-------", "xxx------", "xxxx-----", "xxxx-x---", "xxxx-xx--", "xxxx-xxx-", "xxxx-xxxx"};
        for (int n = 0; n <= 8; n++) {
            String p = pictures[n];
            due(n + " mines around", n, board(0, p.substring(0, 3), p.substring(3, 6), p.substring(6)).open(1, 1));
        }
        due("six in a comb", 6, board(2, "-xx", "x-x", "-xx").open(1, 1));
        about("UNKNOWN are closed and flagged cells; flags tell nothing");
        MineDesk desk = board(0, "-x--x", "-----", "-----");
        desk.open(2, 0);
        String before = toldOfRowOfOnes(desk);
        due("without flags", "5 grade 2: 5 6 2 1/2 500 true", before);
        for (int c = 0; c < 5; c++) desk.flag(0, c);
        due("with flags, right and wrong ones", before, toldOfRowOfOnes(desk));
        about("MINES LEFT: mines but those that are hit");
        MineDesk three = board(0, "xxx", "---", "---");
        due("three of nine", 84, three.ways());
        three.open(0, 0);
        due("two of eight", 28, three.ways());
        due("two of eight", "1/4", Desks.share(three, 2, 2));
        three.open(0, 1);
        due("one of seven", 7, three.ways());
        three.open(0, 2);
        due("none of six", 1, three.ways());
        due("none of six", 1 + 2 * 3, three.hint());
        due("none of six", "grade 3: and the total", Desks.reason(three));
    }

    private static String toldOfRowOfOnes(MineDesk desk) {
        return desk.hint() + " " + Desks.reason(desk) + " " + desk.ways() + " " + Desks.share(desk, 0, 0) + " "
            + desk.permille(0, 3) + " " + desk.follows(0, 2, false);
    }

    private static void opening() {
        about("OPENING a cell: with a mine it is hit");
        MineDesk mine = board(0, "x--", "---", "---");
        due("a mine without mines around", 9, mine.open(0, 0));
        due("nothing else is opened", "*--/---/---", Desks.seen(mine));
        about("if its number is 0, all its unknown neighbours that are without a mine are opened, too");
        MineDesk desk = board(0, "-----", "----x", "-----");
        desk.open(0, 3);
        due("a number opens nothing else", "---1-/-----/-----", Desks.seen(desk));
        desk.open(0, 0);
        due("zeros open on, numbers do not", "0001-/0001-/0001-", Desks.seen(desk));
        MineDesk ring = board(1, "---x---", "---x---", "---x---");
        ring.open(0, 0);
        due("round a ring", "003-300/003-300/003-300", Desks.seen(ring));
        MineDesk comb = board(2, "x----", "-----", "-----");
        comb.open(2, 4);
        due("a comb", "-1000/10000/00000", Desks.seen(comb));
        about("flagged ones as well (no flag is left there)");
        MineDesk flags = board(0, "-----", "----x", "-----");
        for (int r = 0; r < 3; r++) flags.flag(r, 1);
        flags.flag(0, 4);
        flags.flag(1, 4);
        flags.flag(1, 3);
        due("opening on through a row of flags", 0, flags.open(0, 0));
        due("flags next to no zero stay", "0001!/0001!/0001-", Desks.seen(flags));
        due("flags left", 2, flags.count(4));
        due("cells open", 12, flags.count(3));
    }

    private static void livesAndEnds() {
        about("A board begins with all cells closed and three LIVES");
        MineDesk desk = board(0, "xxxx", "----", "----");
        due("edited", "3 4 4 0 0 3 0 0 1 ----/----/----", Desks.counts(desk) + " " + Desks.seen(desk));
        about("a hit takes one");
        desk.open(1, 0);
        desk.open(0, 0);
        due("one hit", 2, desk.count(5));
        desk.open(0, 1);
        due("two hits", 1, desk.count(5));
        about("With none left it is OVER");
        due("one left: chord", 7, desk.chord(1, 0));
        desk.undo();
        due("one left: flag", true, desk.flag(2, 2));
        due("one left: flag", false, desk.flag(2, 2));
        due("one left: open", 9, desk.open(0, 2));
        due("none left", 0, desk.count(5));
        dueThrow("none left: open", UNSUPPORTED, () -> desk.open(2, 2));
        dueThrow("none left: flag", UNSUPPORTED, () -> desk.flag(2, 2));
        dueThrow("none left: chord", UNSUPPORTED, () -> desk.chord(1, 0));
        desk.undo();
        due("a life again", 2, desk.open(1, 3));
        about("It is SOLVED, when all cells without a mine are open");
        MineDesk apart = board(0, "-x-", "xx-", "---");
        for (int cell : new int[] {2, 5, 6, 7, 8}) apart.open(cell / 3, cell % 3);
        due("one is missing", 0, apart.count(7));
        apart.flag(0, 0);
        due("one is flagged", 0, apart.count(7));
        apart.flag(0, 0);
        apart.open(0, 0);
        due("none is missing, no mine is flagged", 1, apart.count(7));
        for (int cell : new int[] {1, 3, 4}) apart.open(cell / 3, cell % 3);
        due("all mines hit: solved, though over", "1 0", apart.count(7) + " " + apart.count(5));
        apart.undo();
        apart.flag(1, 1);
        due("a move on a solved board", true, apart.shown(1, 1) == 11);
        due("no cell without a mine", 1, board(0, "xxx", "xxx", "xxx").count(7));
        MineDesk blank = board(0, "---", "---", "---");
        due("no mines, all closed", 0, blank.count(7));
        blank.open(1, 1);
        due("no mines, all open", 1, blank.count(7));
    }

    private static void placements() {
        about("A PLACEMENT puts the mines left on unknown cells, so that all shown numbers are right (with the mines"
            + " that are hit)");
        MineDesk desk = board(0, "xx--", "----", "----");
        desk.open(1, 1);
        due("both among eight", 28, desk.ways());
        due("none elsewhere", 0, desk.permille(0, 3));
        desk.open(0, 0);
        due("one is hit: one among seven", 7, desk.ways());
        due("one is hit: none elsewhere", 0, desk.permille(0, 3));
        desk.open(0, 1);
        due("both are hit", 1, desk.ways());
        due("both are hit", 0, desk.permille(0, 2));
        MineDesk all = board(0, "---", "---", "---");
        all.open(0, 0);
        due("no unknown cell and no mine: one way to put none", 1, all.ways());
    }

    private static void grades() {
        about("GRADE 1: whatever follows, again and again, by: when as many unknowns of a number are found mined as its"
            + " rest, its others are safe");
        MineDesk hit = board(0, "x---", "----", "---x");
        hit.open(0, 1);
        due("one of five", 0, hit.hint());
        hit.open(0, 0);
        due("rest 0: all are safe", 1 + 2 * 2, hit.hint());
        due("rest 0", "grade 1: 1", Desks.reason(hit));
        // Cell 9 has one unknown alone, cell 8, which is mined; so 0 and 1 are safe by cell 4.
        MineDesk again = board(0, "----", "----", "x--x");
        for (int cell : new int[] {4, 5, 6, 9, 10}) again.open(cell / 4, cell % 4);
        due("a second step", 1, again.hint());
        due("a second step", "grade 1: 4 9", Desks.reason(again));
        about("when so many are not found safe as its rest, those are mined");
        MineDesk full = board(0, "xxx", "x-x", "xxx");
        full.open(1, 1);
        due("eight of eight", 2, full.hint());
        due("eight of eight", "grade 1: 4", Desks.reason(full));
        MineDesk seven = board(0, "xxx", "x-x", "xx-");
        seven.open(1, 1);
        due("seven of eight", 0, seven.hint());
        about("GRADE 2: When all open ends of one are among those of another: with the same need the other's others are"
            + " safe");
        MineDesk ones = board(0, "-x--x", "-----", "-----");
        ones.open(2, 0);
        due("1 and 1", 1 + 2 * 2, ones.hint());
        due("1 and 1", "grade 2: 5 6", Desks.reason(ones));
        about("if the needs differ by just as many as there are others, these are mined");
        MineDesk twos = board(0, "x-x", "---", "---");
        twos.open(2, 0);
        due("1 2 1", "---/121/000", Desks.seen(twos));
        due("2 and 1", 2, twos.hint());
        due("2 and 1", "grade 2: 4 5", Desks.reason(twos));
        // 1 and 2, but two others: one of them would be mined, which grade 2 does not tell.
        MineDesk fewer = board(0, "x-x-x", "-----", "-----");
        for (int c = 0; c < 5; c++) fewer.open(1, c);
        fewer.hint();
        due("they differ by fewer: not grade 2", 3, fewer.reason(0));
        about("let a number's OPEN ENDS be its unknowns that are not found, its NEED its rest less those found mined");
        MineDesk later = board(0, "-x--x", "-----", "--x--", "-----");
        for (int cell : new int[] {10, 14, 7, 17}) later.open(cell / 5, cell % 5);
        due("the row of ones has a mine below it", "-----/12221/01-10/01110", Desks.seen(later));
        due("grade 1 finds it", 2 + 2 * 12, later.hint());
        later.flag(2, 2);
        due("as in the row of ones", 1 + 2 * 2, later.hint());
        due("as in the row of ones", "grade 2: 5 6 11", Desks.reason(later));
    }

    /**
     * Two mines in all: one next to cells 7 and 18 or 19, one next to 9 and 11. Cells 7, 9 and 11 have 15 unknowns
     * together; cell 18 adds one, cell 19 two.
     */
    private static MineDesk chain(int last) {
        MineDesk desk = board(0, "------", "----x-", "-x----", "------");
        for (int cell : new int[] {7, 9, 11, last}) desk.open(cell / 6, cell % 6);
        return desk;
    }

    private static void border() {
        about("GRADE 3: whatever is so in all placements, unless the border is too long");
        MineDesk sixteen = chain(18);
        MineDesk seventeen = chain(19);
        due("16 cells", 1, sixteen.hint());
        due("16 cells", 3, sixteen.reason(0));
        due("17 cells", 0, seventeen.hint());
        due("17 cells", 0, seventeen.reason(0));
        about("It is TOO LONG, when a part has more than 16 cells");
        due("16 cells", 6, sixteen.ways());
        due("16 cells", "1/2", Desks.share(sixteen, 2, 0));
        due("16 cells", 333, sixteen.permille(0, 4));
        due("16 cells, off the border", 0, sixteen.permille(3, 5));
        due("17 cells", MineDesk.NONE, seventeen.ways());
        dueThrow("17 cells", UNSUPPORTED, () -> Desks.share(seventeen, 2, 0));
        dueThrow("17 cells", UNSUPPORTED, () -> seventeen.permille(0, 4));
        dueThrow("17 cells, off the border", UNSUPPORTED, () -> seventeen.permille(3, 5));
        about("THE BORDER: unknown cells next to shown numbers");
        seventeen.flag(0, 0);
        seventeen.flag(2, 1);
        due("flagged cells are of it", MineDesk.NONE, seventeen.ways());
        MineDesk withHit = board(0, "------", "----x-", "-x----", "-----x");
        for (int cell : new int[] {7, 9, 11, 18, 23}) withHit.open(cell / 6, cell % 6);
        due("what is hit shows no number", 6, withHit.ways());
        about("it falls into PARTS: two cells are of one part, if they are next to one number, and so on");
        MineDesk parts = board(0, "--x--", "-----", "-----", "--x--", "-----", "-----");
        for (int cell : new int[] {6, 8, 21, 23}) parts.open(cell / 5, cell % 5);
        due("two parts of 13 that lie side by side", 9, parts.ways());
        due("two parts of 13", 333, parts.permille(1, 2));
        due("the number that joins them", 1, parts.open(2, 2));
        due("one part of 25", MineDesk.NONE, parts.ways());
    }

    private static void hints() {
        about("A HINT is the first cell in reading order");
        MineDesk desk = board(0, "x-x", "---", "---");
        desk.open(2, 0);
        due("mined, then safe, then mined", 2, desk.hint());
        about("or finds mined and that is not flagged");
        desk.flag(0, 0);
        due("the first is flagged", 1 + 2 * 1, desk.hint());
        desk.flag(0, 1);
        due("a safe one that is flagged", 1 + 2 * 1, desk.hint());
        desk.flag(0, 1);
        desk.open(0, 1);
        due("the last", 2 + 2 * 2, desk.hint());
        desk.flag(0, 2);
        due("all mines are flagged", 0, desk.hint());
        desk.flag(0, 0);
        due("a flag is gone", 2, desk.hint());
        about("that the lowest of the grades 1, 2, 3 in which there is one finds");
        MineDesk two = board(0, "-x--x", "-----", "-----", "-----", "-----", "----x");
        two.open(2, 0);
        due("grade 1, far behind that of grade 2", 2 + 2 * 29, two.hint());
        due("grade 1", "grade 1: 23", Desks.reason(two));
        two.flag(5, 4);
        due("grade 1 has none but a flagged one", 1 + 2 * 2, two.hint());
        due("grade 2", "grade 2: 5 6", Desks.reason(two));
        MineDesk three = board(0, "x------", "-------", "-------");
        three.open(0, 1);
        due("grade 3", 1 + 2 * 3, three.hint());
        due("grade 3", 3, three.reason(0));
        three.open(0, 0);
        due("grade 1 again", 1 + 2 * 2, three.hint());
        due("grade 1 again", 1, three.reason(0));
    }

    private static void reasons() {
        about("if the verdict follows from all shown numbers next to cells of the cell's part alone (the cell being on"
            + " the border): these");
        MineDesk full = board(0, "xxx", "x-x", "xxx");
        full.open(1, 1);
        full.hint();
        due("the total would do, but is not asked", "grade 1: 4", Desks.reason(full));
        about("else all shown numbers that have unknowns, and the total");
        MineDesk sixteen = chain(18);
        sixteen.hint();
        due("a cell on the border", "grade 3: 9 18 and the total", Desks.reason(sixteen));
        MineDesk apart = board(0, "-x---x-", "-------", "-------");
        apart.open(0, 0);
        apart.open(0, 6);
        due("a cell off the border", 1 + 2 * 2, apart.hint());
        due("numbers of two parts", "grade 3: 0 6 and the total", Desks.reason(apart));
        MineDesk blank = board(0, "---", "---", "---");
        blank.hint();
        due("no number at all", "grade 3: and the total", Desks.reason(blank));
        about("From the last to the first in reading order, then, a number is left out, if the verdict follows from what"
            + " is left without it");
        MineDesk corner = board(0, "x---", "----", "----", "---x");
        corner.open(0, 3);
        corner.hint();
        due("the first of three that would do alone", "grade 1: 1", Desks.reason(corner));
        MineDesk total = board(0, "xxxxx", "x-xxx", "xxxxx");
        total.open(1, 1);
        for (int cell : new int[] {0, 1, 2, 5, 7, 10, 11, 12}) total.flag(cell / 5, cell % 5);
        due("all unknown cells are mined", 2 + 2 * 3, total.hint());
        due("the total stays alone", "grade 3: and the total", Desks.reason(total));
    }

    /** Mines along the upper and the left side, 17 of one part, and one in the last corner. */
    private static MineDesk twoParts() {
        MineDesk desk = new MineDesk();
        desk.blank(9, 9, 0);
        for (int i = 0; i < 9; i++) {
            desk.edit(0, i, true);
            desk.edit(i, 0, true);
        }
        desk.edit(8, 8, true);
        desk.open(4, 4);
        return desk;
    }

    private static void reasonsOfALongBorder() {
        about("(but nothing is left out when the border is too long; then the reason are all shown numbers next to cells"
            + " of the cell's part)");
        MineDesk desk = twoParts();
        due("in the long part", 2, desk.hint());
        due("in the long part", "grade 1: 10 11 12 13 14 15 16 17 19 28 37 46 55 64 73", Desks.reason(desk));
        dueThrow("in the long part", UNSUPPORTED, () -> desk.follows(0, 0, true));
        for (int i = 0; i < 9; i++) {
            desk.flag(0, i);
            if (i > 0) desk.flag(i, 0);
        }
        due("in another part", 2 + 2 * 80, desk.hint());
        due("in another part", "grade 1: 70 71 79", Desks.reason(desk));
        due("its own numbers are few", true, desk.follows(8, 8, true));
        due("not next to its numbers", false, desk.follows(0, 0, true));
        desk.flag(0, 8);
        desk.open(0, 8);
        desk.hint();
        due("16 cells and a hit one", "grade 1: 70", Desks.reason(desk));
    }

    private static String made(int w, int h, int mines, int shape, int seed, int grade) {
        MineDesk desk = new MineDesk();
        if (desk.make(w, h, mines, shape, seed, grade) == 0) return "given up";
        desk.open(h / 2, w / 2);
        return Desks.seen(desk);
    }

    private static void making() {
        about("The first cell is row h / 2, column w / 2 (rounded down); it and its neighbours have no mines");
        due("4 by 4", "----/-532/-300/-200", made(4, 4, 7, 0, 77, 1));
        due("5 by 3", "-202-/-303-/-202-", made(5, 3, 6, 0, 77, 1));
        due("3 by 5", "---/232/000/232/---", made(3, 5, 6, 0, 77, 1));
        due("ring", "----/-535/-303/-535", made(4, 4, 7, 1, 77, 1));
        due("comb", "----/-33-/-302/-11-", made(4, 4, 9, 2, 77, 1));
        due("comb ring", "----/-33-/-303/-33-", made(4, 4, 9, 3, 77, 1));
        due("12 by 12, all free cells mined", 1, new MineDesk().make(12, 12, 135, 0, 77, 1));
        about("x is the seed's lowest 31 bits");
        for (int seed : new int[] {0, 1, 5, 65535, 123456789, Integer.MAX_VALUE}) {
            due("seed " + seed + " with its highest bit", made(7, 6, 9, 0, seed, 3), made(7, 6, 9, 0, seed | Integer.MIN_VALUE, 3));
        }
        due("the bit below counts", false, made(7, 6, 9, 0, 1, 3).equals(made(7, 6, 9, 0, 1 | 1 << 30, 3)));
        about("x becomes 1103515245 * x + 12345, of that the lowest 31 bits");
        // From 0: 12345, then 1406932606; from 1: 1103527590; from 2^31 - 1: 1043980748.
        due("0, then 21468 modulo 15", "-101-/11011/00000/00000/00000", made(5, 5, 2, 0, 0, 1));
        due("16838 modulo 16", "0001-/0001-/00011/00000/00000", made(5, 5, 1, 0, 1, 1));
        due("15929 modulo 16", "00000/00000/11000/-1000/-1000", made(5, 5, 1, 0, -1, 1));
        about("the mine goes to one of the free cells (no mine, neither the first cell nor a neighbour of it) in reading"
            + " order: number x / 65536 modulo how many there are, counted from 0");
        due("17747 modulo 7, 7107 modulo 6", "----/-211/1100/0000", made(4, 4, 2, 0, 3, 3));
        about("When it is solved, it is made");
        MineDesk solved = new MineDesk();
        due("by the first opening", 1, solved.make(4, 3, 3, 0, 1, 1));
        due("all cells are closed then", "3 4 3 0 0 3 0 0 1", Desks.counts(solved));
    }

    private static void makingByGrades() {
        about("all cells that the lowest of the grades 1 up to the stated one that finds any safe finds safe");
        // The mine is at row 1, column 0: three ones, of which grade 2 alone can tell; nowhere is a cell to take it.
        due("grade 1", "given up", made(4, 3, 1, 0, 5, 1));
        due("grade 2", "-100/-100/-100", made(4, 3, 1, 0, 5, 2));
        due("grade 3 has grade 2", "-100/-100/-100", made(4, 3, 1, 0, 5, 3));
        // The mines are at cells 2 and 4: with three mines they could be at 0, 3 and 4, but there are two.
        due("no total for grade 2", "given up", made(4, 4, 2, 0, 3, 2));
        due("the total for grade 3", "----/-211/1100/0000", made(4, 4, 2, 0, 3, 3));
    }

    private static void makingByShifts() throws ReflectiveOperationException {
        about("Otherwise, the first unknown cell with a mine next to a shown number gives it to the first unknown cell"
            + " without one that is next to no shown number, and it is played anew");
        // The mine is at row 1, column 1: three ones in column 2; column 0 is next to no shown number.
        due("grade 1 shifts it to the first cell", "-10000/110000/000000", made(6, 3, 1, 0, 21, 1));
        due("grade 2 does not", "--1000/--1000/--1000", made(6, 3, 1, 0, 21, 2));
        about("when either is missing, it is given up");
        MineDesk desk = new MineDesk();
        due("no cell to take it", 0, desk.make(4, 3, 1, 0, 5, 1));
        dueThrow("there is no board", IllegalStateException.class, () -> desk.count(0));
        about("or this was done 100 times");
        oftenShifted(12, 12, 42, 2, 903208821, 1, 82);
        String[] board = {"-x---xx-x---", "xxx-xx-x----", "---xxx-x----", "--xxxxxx----", "----xx--x---", "---xx--x----",
            "--------x---", "----x-------", "----x-x-----", "------------", "------------", "------------"};
        due("a board of 100 shifts", 100, PlainDesk.shiftsNeeded(2, 1, board));
        due("100 shifts", true, Inside.settles(2, 1, board));
        board[3] = "---xxxxx----";
        due("a board of 101 shifts", 101, PlainDesk.shiftsNeeded(2, 1, board));
        due("101 shifts", false, Inside.settles(2, 1, board));
    }

    /** In some hundred million boards that were tried no seed led to 90 shifts, so what is more is tested from inside. */
    private static void oftenShifted(int w, int h, int mines, int shape, int seed, int grade, int shifts) {
        MineDesk desk = new MineDesk();
        PlainDesk plain = new PlainDesk();
        due("made after " + shifts + " shifts", 1, desk.make(w, h, mines, shape, seed, grade));
        due("made after " + shifts + " shifts", 1, plain.make(w, h, mines, shape, seed, grade));
        due("so many shifts", shifts, plain.shifts());
        for (int cell = 0; cell < w * h; cell++) {
            if (plain.isSafe(cell / w, cell % w) && desk.shown(cell / w, cell % w) == 10) desk.open(cell / w, cell % w);
        }
        due("the mines are where they should be", mines + " 3 1", desk.count(2) + " " + desk.count(5) + " " + desk.count(7));
    }

    private static void moves() {
        about("MOVES are open(), flag() and chord() that throw nothing");
        MineDesk desk = board(0, "x----", "-----", "-----", "----x");
        due("edit is none", 0, desk.count(6));
        desk.open(1, 1);
        due("open", 1, desk.count(6));
        desk.flag(0, 0);
        due("flag", 2, desk.count(6));
        desk.chord(1, 1);
        due("chord", 3, desk.count(6));
        dueThrow("open refused", UNSUPPORTED, () -> desk.open(1, 1));
        dueThrow("flag refused", UNSUPPORTED, () -> desk.flag(1, 1));
        dueThrow("chord refused", UNSUPPORTED, () -> desk.chord(1, 1));
        dueThrow("no such cell", BOUNDS, () -> desk.open(4, 0));
        desk.hint();
        desk.ways();
        due("none of these", 3, desk.count(6));
        due("the latest is the chord", 2, desk.undo());
        due("it is taken back", "!----/-1---/-----/-----", Desks.seen(desk));
        about("undo() takes back all that the latest one did");
        MineDesk flags = board(0, "-----", "----x", "-----");
        for (int r = 0; r < 3; r++) flags.flag(r, 1);
        String before = Desks.all(flags);
        flags.open(0, 0);
        flags.undo();
        due("opened cells, flags among them", before, Desks.all(flags));
        MineDesk hits = board(0, "xxx", "---", "---");
        hits.open(1, 1);
        for (int cell : new int[] {3, 5, 6}) hits.flag(cell / 3, cell % 3);
        String closed = Desks.all(hits);
        hits.chord(1, 1);
        due("three hits and all the rest", "***/232/000", Desks.seen(hits));
        hits.undo();
        due("hits, lives, opened cells and flags", closed, Desks.all(hits));
        for (int left = 3; left >= 0; left--) due("moves left", left, hits.undo());
        due("the first state", "3 3 3 0 0 3 0 0 1", Desks.counts(hits));
    }
}
