import java.math.BigInteger;

/** Each promise by itself: ordinary calls, the edges that the document names, and wrong calls. */
public final class PromisesTest {
    private static final Class<IllegalStateException> STATE = IllegalStateException.class;
    private static final Class<IllegalArgumentException> ARGUMENT = IllegalArgumentException.class;
    private static final Class<IndexOutOfBoundsException> BOUNDS = IndexOutOfBoundsException.class;
    private static final Class<UnsupportedOperationException> UNSUPPORTED = UnsupportedOperationException.class;
    private static final Checks checks = new Checks();

    public static void main(String[] args) {
        newObject();
        makePutsMines();
        makeGivesUp();
        makeRefuses();
        blankBoards();
        shapes();
        editing();
        noSuchCell();
        opening();
        livesRunOut();
        flagging();
        chording();
        takingBack();
        hintOfGrade1();
        hintOfGrade2();
        hintOfGrade3();
        hintByTotal();
        hintKeepsAndForgets();
        borderLength();
        followsAsItIsNow();
        followsFromOpenNumbersAlone();
        countingPlacements();
        longShares();
        counts();
        beyondTheLimit();
        checks.end();
    }

    private static void due(int promise, String what, Object want, Object got) {
        checks.about("promise " + promise);
        checks.due(what, want, got);
    }

    private static void dueThrow(int promise, String what, Class<? extends RuntimeException> want, Checks.Call call) {
        checks.about("promise " + promise);
        checks.dueThrow(what, want, call);
    }

    private static void newObject() {
        MineDesk desk = new MineDesk();
        due(1, "NONE", -1, MineDesk.NONE);
        dueThrow(1, "edit", STATE, () -> desk.edit(0, 0, true));
        dueThrow(1, "open", STATE, () -> desk.open(-1, 99));
        dueThrow(1, "flag", STATE, () -> desk.flag(0, 0));
        dueThrow(1, "chord", STATE, () -> desk.chord(0, 0));
        dueThrow(1, "undo", STATE, desk::undo);
        dueThrow(1, "shown", STATE, () -> desk.shown(0, 0));
        dueThrow(1, "hint", STATE, desk::hint);
        dueThrow(1, "reason", STATE, () -> desk.reason(7));
        dueThrow(1, "reasonCell", STATE, () -> desk.reasonCell(-1));
        dueThrow(1, "follows", STATE, () -> desk.follows(0, 0, true));
        dueThrow(1, "ways", STATE, desk::ways);
        dueThrow(1, "share", STATE, () -> desk.share(0, 0, 2, 8));
        dueThrow(1, "permille", STATE, () -> desk.permille(0, 0));
        dueThrow(1, "count", STATE, () -> desk.count(9));
    }

    private static void makePutsMines() {
        MineDesk desk = new MineDesk();
        // x becomes 12345, which is cell 0 of the free ones.
        for (int seed : new int[] {0, Integer.MIN_VALUE}) {
            due(2, "make, seed " + seed, 1, desk.make(5, 5, 1, 0, seed, 1));
            due(2, "made and closed", "5 5 1 0 0 3 0 0 1", Desks.counts(desk));
            due(2, "first cell", 0, desk.open(2, 2));
            due(2, "mine at the corner", "-1000/11000/00000/00000/00000", Desks.seen(desk));
        }
        // x becomes 1103527590: 16838 modulo 16 is 6, which is row 1, column 4.
        due(2, "make, seed 1", 1, desk.make(5, 5, 1, 0, 1, 1));
        desk.open(2, 2);
        due(2, "mine at the side", "0001-/0001-/00011/00000/00000", Desks.seen(desk));
        dueThrow(2, "a made board is not edited", UNSUPPORTED, () -> desk.edit(0, 0, true));
        due(2, "all free cells mined", 1, desk.make(4, 3, 3, 0, 9, 2));
        desk.open(1, 2);
        due(2, "all free cells mined, opened", "-200/-300/-200", Desks.seen(desk));
        due(2, "all free cells of a comb", 1, desk.make(3, 3, 2, 2, 5, 1));
    }

    private static void makeGivesUp() {
        MineDesk desk = new MineDesk();
        desk.blank(4, 4, 0);
        desk.hint();
        due(2, "given up", 0, desk.make(6, 6, 6, 0, 1, 3));
        dueThrow(2, "no board", STATE, () -> desk.count(0));
        dueThrow(2, "no reason", STATE, () -> desk.reason(0));
        dueThrow(2, "no move", STATE, desk::undo);
    }

    private static void makeRefuses() {
        MineDesk desk = new MineDesk();
        dueThrow(2, "width 2", ARGUMENT, () -> desk.make(2, 5, 1, 0, 1, 1));
        dueThrow(2, "width 13", ARGUMENT, () -> desk.make(13, 5, 1, 0, 1, 1));
        dueThrow(2, "height 2", ARGUMENT, () -> desk.make(5, 2, 1, 0, 1, 1));
        dueThrow(2, "height 13", ARGUMENT, () -> desk.make(5, 13, 1, 0, 1, 1));
        dueThrow(2, "huge sizes", ARGUMENT, () -> desk.make(1 << 30, 1 << 30, 1, 0, 1, 1));
        dueThrow(2, "shape -1", ARGUMENT, () -> desk.make(5, 5, 1, -1, 1, 1));
        dueThrow(2, "shape 4", ARGUMENT, () -> desk.make(5, 5, 1, 4, 1, 1));
        dueThrow(2, "odd comb ring", ARGUMENT, () -> desk.make(5, 5, 1, 3, 1, 1));
        dueThrow(2, "no mines", ARGUMENT, () -> desk.make(5, 5, 0, 0, 1, 1));
        dueThrow(2, "mines below 0", ARGUMENT, () -> desk.make(5, 5, -1, 0, 1, 1));
        dueThrow(2, "a mine too many", ARGUMENT, () -> desk.make(5, 5, 17, 0, 1, 1));
        dueThrow(2, "a mine too many in a comb", ARGUMENT, () -> desk.make(5, 5, 19, 2, 1, 1));
        dueThrow(2, "no free cell", ARGUMENT, () -> desk.make(3, 3, 1, 1, 1, 1));
        dueThrow(2, "grade 0", ARGUMENT, () -> desk.make(5, 5, 1, 0, 1, 0));
        dueThrow(2, "grade 4", ARGUMENT, () -> desk.make(5, 5, 1, 0, 1, 4));
        dueThrow(2, "still no board", STATE, () -> desk.count(0));
        desk.blank(4, 3, 0);
        desk.edit(0, 0, true);
        desk.open(0, 1);
        desk.hint();
        String before = Desks.seen(desk) + Desks.counts(desk) + Desks.reason(desk);
        dueThrow(2, "refused", ARGUMENT, () -> desk.make(5, 5, 1, 0, 1, 4));
        dueThrow(3, "refused", ARGUMENT, () -> { desk.blank(5, 5, 3); return 0; });
        due(2, "the board before stays", before, Desks.seen(desk) + Desks.counts(desk) + Desks.reason(desk));
    }

    private static void blankBoards() {
        MineDesk desk = new MineDesk();
        dueThrow(3, "width 2", ARGUMENT, () -> { desk.blank(2, 3, 0); return 0; });
        dueThrow(3, "width 13", ARGUMENT, () -> { desk.blank(13, 3, 0); return 0; });
        dueThrow(3, "height 2", ARGUMENT, () -> { desk.blank(3, 2, 0); return 0; });
        dueThrow(3, "height 13", ARGUMENT, () -> { desk.blank(3, 13, 0); return 0; });
        dueThrow(3, "shape -1", ARGUMENT, () -> { desk.blank(3, 3, -1); return 0; });
        dueThrow(3, "shape 4", ARGUMENT, () -> { desk.blank(3, 3, 4); return 0; });
        dueThrow(3, "comb ring of 3 rows", ARGUMENT, () -> { desk.blank(3, 3, 3); return 0; });
        dueThrow(3, "comb ring of 11 rows", ARGUMENT, () -> { desk.blank(3, 11, 3); return 0; });
        dueThrow(3, "still no board", STATE, () -> desk.shown(0, 0));
        desk.blank(3, 12, 3);
        due(3, "blank", "12 3 0 0 0 3 0 0 1", Desks.counts(desk));
        due(3, "opens at once", 0, desk.open(0, 0));
        desk.blank(12, 3, 0);
        due(3, "a new board", "3 12 0 0 0 3 0 0 1", Desks.counts(desk));
    }

    private static void shapes() {
        due(3, "plane", 8, numberAt(0, 1, 1, "xxx", "x-x", "xxx"));
        due(3, "plane corner", 3, numberAt(0, 0, 0, "-xx", "xxx", "xxx"));
        due(3, "plane side", 5, numberAt(0, 1, 0, "xx-", "-xx", "xxx"));
        due(3, "plane, far ones", 0, numberAt(0, 0, 0, "--x", "--x", "xxx"));
        due(3, "ring corner", 1, numberAt(1, 0, 0, "-----", "-----", "-----", "---xx"));
        due(3, "ring of three by three", 8, numberAt(1, 0, 0, "-xx", "xxx", "xxx"));
        due(3, "ring side", 3, numberAt(1, 2, 0, "-----", "----x", "---x-", "x---x"));
        due(3, "comb, even row", 6, numberAt(2, 2, 1, "---", "xx-", "x-x", "xx-"));
        due(3, "comb, even row, not behind", 0, numberAt(2, 2, 1, "xxx", "--x", "---", "--x"));
        due(3, "comb, odd row", 6, numberAt(2, 1, 1, "-xx", "x-x", "-xx", "---"));
        due(3, "comb, odd row, not before", 0, numberAt(2, 1, 1, "x--", "---", "x--", "xxx"));
        due(3, "comb corner", 2, numberAt(2, 0, 0, "-xx", "xxx", "xxx"));
        due(3, "comb corner of an odd row", 3, numberAt(2, 1, 2, "xxx", "xx-", "--x"));
        due(3, "comb ring corner", 6, numberAt(3, 0, 0, "-x-x", "x--x", "----", "x--x"));
        due(3, "comb ring corner, others", 0, numberAt(3, 0, 0, "--x-", "-xx-", "xxxx", "-xx-"));
        due(3, "comb ring, last row", 6, numberAt(3, 3, 3, "x--x", "----", "x--x", "x-x-"));
    }

    private static int numberAt(int shape, int r, int c, String... rows) {
        return Desks.board(shape, rows).open(r, c);
    }

    private static void editing() {
        MineDesk desk = new MineDesk();
        desk.blank(3, 3, 0);
        due(4, "a mine", 1, desk.edit(0, 0, true));
        due(4, "the same again", 1, desk.edit(0, 0, true));
        due(4, "another", 2, desk.edit(2, 2, true));
        due(4, "none there", 2, desk.edit(1, 1, false));
        due(4, "one less", 1, desk.edit(0, 0, false));
        due(4, "numbers are those of the mines now", 1, desk.open(1, 1));
        dueThrow(4, "after a move", UNSUPPORTED, () -> desk.edit(0, 0, true));
        dueThrow(4, "no such cell comes first", BOUNDS, () -> desk.edit(3, 0, true));
        desk.undo();
        due(4, "after taking it back", 2, desk.edit(0, 0, true));
        due(4, "numbers again", 2, desk.open(1, 1));
        desk.undo();
        desk.flag(0, 0);
        dueThrow(4, "after a flag", UNSUPPORTED, () -> desk.edit(0, 1, true));
        desk.flag(0, 0);
        dueThrow(4, "after two flags", UNSUPPORTED, () -> desk.edit(0, 1, true));
        desk.undo();
        desk.undo();
        due(4, "after taking both back", 3, desk.edit(0, 1, true));
        for (int cell = 0; cell < 9; cell++) desk.edit(cell / 3, cell % 3, true);
        due(4, "all mines", "3 3 9 0 0 3 0 1 0", Desks.counts(desk));
        desk.make(4, 3, 3, 0, 9, 2);
        dueThrow(4, "a made board", UNSUPPORTED, () -> desk.edit(0, 0, true));
        desk.blank(3, 3, 0);
        due(4, "a new blank board", 1, desk.edit(0, 0, true));
    }

    private static void noSuchCell() {
        MineDesk desk = Desks.board(0, "x---", "----", "---x");
        int[][] wrong = {{-1, 0}, {0, -1}, {3, 0}, {0, 4}, {Integer.MIN_VALUE, 0}, {0, Integer.MAX_VALUE}, {-1, 5}};
        for (int[] at : wrong) {
            String cell = "row " + at[0] + ", column " + at[1];
            dueThrow(4, "edit, " + cell, BOUNDS, () -> desk.edit(at[0], at[1], true));
            dueThrow(5, "open, " + cell, BOUNDS, () -> desk.open(at[0], at[1]));
            dueThrow(6, "flag, " + cell, BOUNDS, () -> desk.flag(at[0], at[1]));
            dueThrow(7, "chord, " + cell, BOUNDS, () -> desk.chord(at[0], at[1]));
            dueThrow(9, "shown, " + cell, BOUNDS, () -> desk.shown(at[0], at[1]));
            dueThrow(13, "follows, " + cell, BOUNDS, () -> desk.follows(at[0], at[1], true));
            dueThrow(15, "share, " + cell, BOUNDS, () -> desk.share(at[0], at[1], 0, 0));
            dueThrow(16, "permille, " + cell, BOUNDS, () -> desk.permille(at[0], at[1]));
        }
        due(4, "nothing has changed", "3 4 2 0 0 3 0 0 2", Desks.counts(desk));
        due(9, "last cell", 10, desk.shown(2, 3));
    }

    private static void opening() {
        MineDesk desk = Desks.board(0, "x----", "-----", "-----", "----x");
        due(5, "a number", 1, desk.open(1, 1));
        due(9, "one open", "-----/-1---/-----/-----", Desks.seen(desk));
        desk.flag(0, 2);
        desk.flag(0, 0);
        desk.flag(3, 4);
        due(5, "a zero opens on", 0, desk.open(0, 4));
        due(9, "flags on safe cells are gone", "!1000/11000/00011/0001!", Desks.seen(desk));
        due(17, "flags left", 2, desk.count(4));
        dueThrow(5, "open already", UNSUPPORTED, () -> desk.open(0, 4));
        dueThrow(5, "flagged", UNSUPPORTED, () -> desk.open(0, 0));
        desk.flag(0, 0);
        due(5, "a mine, though it is solved", 9, desk.open(0, 0));
        due(9, "hit", "*1000/11000/00011/0001!", Desks.seen(desk));
        dueThrow(5, "hit already", UNSUPPORTED, () -> desk.open(0, 0));
        due(17, "still solved", 1, desk.count(7));
        due(17, "a life less", 2, desk.count(5));
    }

    private static void livesRunOut() {
        MineDesk desk = Desks.board(0, "xxx", "x--", "---");
        desk.open(1, 1);
        for (int c = 0; c < 3; c++) due(5, "hit", 9, desk.open(0, c));
        due(17, "no lives", 0, desk.count(5));
        dueThrow(5, "over", UNSUPPORTED, () -> desk.open(2, 2));
        dueThrow(6, "over", UNSUPPORTED, () -> desk.flag(2, 2));
        dueThrow(7, "over", UNSUPPORTED, () -> desk.chord(1, 1));
        due(9, "over", "***/-4-/---", Desks.seen(desk));
        due(10, "a hint all the same", 0, desk.hint());
        due(14, "ways all the same", 5, desk.ways());
        due(16, "share all the same", 200, desk.permille(2, 2));
        due(8, "undo all the same", 3, desk.undo());
        due(5, "goes on", 2, desk.open(1, 2));
    }

    private static void flagging() {
        MineDesk desk = Desks.board(0, "x--", "---", "---");
        due(6, "flagged", true, desk.flag(0, 0));
        due(9, "flagged", 11, desk.shown(0, 0));
        due(17, "flagged ones", 1, desk.count(4));
        due(6, "closed again", false, desk.flag(0, 0));
        due(9, "closed", 10, desk.shown(0, 0));
        due(17, "both are moves", 2, desk.count(6));
        due(5, "open", 9, desk.open(0, 0));
        dueThrow(6, "hit", UNSUPPORTED, () -> desk.flag(0, 0));
        desk.open(1, 1);
        dueThrow(6, "open", UNSUPPORTED, () -> desk.flag(1, 1));
        due(6, "a safe cell can be flagged", true, desk.flag(2, 2));
    }

    private static void chording() {
        MineDesk desk = Desks.board(0, "x----", "-----", "-----", "----x");
        desk.open(1, 1);
        dueThrow(7, "closed cell", UNSUPPORTED, () -> desk.chord(0, 0));
        dueThrow(7, "no flag", UNSUPPORTED, () -> desk.chord(1, 1));
        desk.flag(0, 0);
        desk.flag(0, 1);
        dueThrow(7, "a flag too many", UNSUPPORTED, () -> desk.chord(1, 1));
        dueThrow(7, "flagged cell", UNSUPPORTED, () -> desk.chord(0, 0));
        desk.flag(0, 1);
        due(7, "opens all that opens", 17, desk.chord(1, 1));
        due(9, "after the chord", "!1000/11000/00011/0001-", Desks.seen(desk));
        dueThrow(7, "none is closed", UNSUPPORTED, () -> desk.chord(1, 1));
        dueThrow(7, "number 0", UNSUPPORTED, () -> desk.chord(0, 4));
        due(8, "one move", 4, desk.undo());
        due(9, "as before", "!----/-1---/-----/-----", Desks.seen(desk));

        MineDesk hit = Desks.board(0, "x--", "---", "---");
        hit.open(1, 1);
        hit.open(0, 0);
        dueThrow(7, "hit cell", UNSUPPORTED, () -> hit.chord(0, 0));
        due(7, "a hit counts as a flag", 7, hit.chord(1, 1));
        due(17, "solved", 1, hit.count(7));

        MineDesk wrong = Desks.board(0, "xxx", "x--", "---");
        wrong.open(1, 1);
        for (int cell : new int[] {5, 6, 7, 8}) wrong.flag(cell / 3, cell % 3);
        due(7, "four hits", 4, wrong.chord(1, 1));
        due(17, "lives below 0", -1, wrong.count(5));
        due(9, "four hits", "***/*4!/!!!", Desks.seen(wrong));
        dueThrow(6, "over", UNSUPPORTED, () -> wrong.flag(2, 2));
        due(8, "taken back", 5, wrong.undo());
        due(17, "lives again", 3, wrong.count(5));
    }

    private static void takingBack() {
        MineDesk desk = Desks.board(0, "x----", "-----", "-----", "----x");
        dueThrow(8, "no move", UNSUPPORTED, desk::undo);
        desk.flag(0, 3);
        desk.open(0, 0);
        desk.open(0, 4);
        due(9, "before", "*1000/11000/00011/0001-", Desks.seen(desk));
        due(8, "opening taken back", 2, desk.undo());
        due(9, "the flag is there again", "*--!-/-----/-----/-----", Desks.seen(desk));
        due(8, "hit taken back", 1, desk.undo());
        due(17, "lives", 3, desk.count(5));
        due(8, "flag taken back", 0, desk.undo());
        due(8, "as at first", "4 5 2 0 0 3 0 0 1", Desks.counts(desk));
        dueThrow(8, "no move left", UNSUPPORTED, desk::undo);
        dueThrow(8, "refused calls are no moves", UNSUPPORTED, () -> desk.chord(0, 0));
        due(8, "refused calls are no moves", 0, desk.count(6));
        desk.open(0, 4);
        desk.blank(3, 3, 0);
        dueThrow(8, "a new board has none", UNSUPPORTED, desk::undo);
    }

    private static void hintOfGrade1() {
        MineDesk desk = Desks.board(0, "x---", "----", "----", "---x");
        desk.open(0, 3);
        due(10, "mined", 2, desk.hint());
        due(11, "the last numbers are left out", "grade 1: 1", Desks.reason(desk));
        desk.flag(0, 0);
        due(10, "flagged ones are passed", 2 + 2 * 15, desk.hint());
        due(11, "the other corner", "grade 1: 10", Desks.reason(desk));
        desk.flag(3, 3);
        due(10, "all flagged", 0, desk.hint());
        due(11, "no reason", "grade 0:", Desks.reason(desk));
        dueThrow(12, "no number", BOUNDS, () -> desk.reasonCell(0));

        MineDesk safe = Desks.board(0, "x---", "----", "----");
        safe.open(0, 1);
        safe.open(1, 0);
        safe.open(0, 0);
        safe.flag(0, 2);
        due(10, "a safe one though it is flagged", 1 + 2 * 2, safe.hint());
        due(11, "by its number", "grade 1: 1", Desks.reason(safe));
        due(13, "safe", true, safe.follows(0, 2, false));
        due(13, "another one by it", true, safe.follows(1, 2, false));
        due(13, "not next to it", false, safe.follows(2, 0, false));
    }

    private static void hintOfGrade2() {
        MineDesk desk = Desks.board(0, "-x--x", "-----", "-----");
        desk.open(2, 0);
        due(9, "a row of ones", "-----/11111/00000", Desks.seen(desk));
        due(10, "safe", 1 + 2 * 2, desk.hint());
        due(11, "two numbers", "grade 2: 5 6", Desks.reason(desk));
        due(11, "grade", 2, desk.reason(0));
        due(11, "how many", 2, desk.reason(1));
        due(11, "no total", 0, desk.reason(2));
        dueThrow(11, "another what", BOUNDS, () -> desk.reason(3));
        dueThrow(11, "another what", BOUNDS, () -> desk.reason(-1));
        due(12, "first", 5, desk.reasonCell(0));
        due(12, "second", 6, desk.reasonCell(1));
        dueThrow(12, "third", BOUNDS, () -> desk.reasonCell(2));
        dueThrow(12, "below 0", BOUNDS, () -> desk.reasonCell(-1));
        due(13, "safe", true, desk.follows(0, 2, false));
        due(13, "not mined", false, desk.follows(0, 2, true));
        due(13, "open yet", false, desk.follows(0, 0, true));
        due(13, "not of its numbers", false, desk.follows(0, 3, true));
        dueThrow(13, "an open cell", UNSUPPORTED, () -> desk.follows(1, 1, true));
        due(14, "two ways", 2, desk.ways());
        due(15, "half", "1/2", Desks.share(desk, 0, 0));
        due(15, "none", "0/1", Desks.share(desk, 0, 2));

        // The first 2 has one open end more than the first 1: it is mined; so the middle 1 has its mine.
        MineDesk mined = Desks.board(0, "x-x-x", "-----", "-----");
        mined.open(2, 0);
        due(9, "ones and twos", "-----/12121/00000", Desks.seen(mined));
        due(10, "mined", 2, mined.hint());
        due(11, "the first number is left out lastly", "grade 2: 6 7", Desks.reason(mined));
        mined.flag(0, 0);
        due(10, "then safe", 1 + 2 * 1, mined.hint());
    }

    /** The 1 and the 2 leave one mine for the two cells of column 2; so the middle 1 leaves none to columns 1 and 3. */
    private static void hintOfGrade3() {
        MineDesk desk = Desks.board(0, "x-x-x", "-----", "-----");
        for (int c = 0; c < 5; c++) desk.open(1, c);
        due(9, "row 1 is open", "-----/12121/-----", Desks.seen(desk));
        due(10, "safe", 1 + 2 * 1, desk.hint());
        due(11, "numbers alone", "grade 3: 5 6 7", Desks.reason(desk));
        due(13, "below as well", true, desk.follows(2, 3, false));
        due(13, "one of two", false, desk.follows(0, 2, true));
    }

    private static void hintByTotal() {
        MineDesk blank = Desks.board(0, "---", "---", "---");
        due(10, "no mines at all", 1, blank.hint());
        due(11, "by the total alone", "grade 3: and the total", Desks.reason(blank));
        due(13, "any cell", true, blank.follows(2, 2, false));
        due(13, "no cell", false, blank.follows(2, 2, true));

        MineDesk full = Desks.board(0, "xxx", "xxx", "xxx");
        due(10, "all mines", 2, full.hint());
        due(11, "by the total alone", "grade 3: and the total", Desks.reason(full));

        MineDesk one = Desks.board(0, "-x-----", "-------", "-------");
        one.open(0, 0);
        due(10, "off the border", 1 + 2 * 2, one.hint());
        due(11, "the number and the total", "grade 3: 0 and the total", Desks.reason(one));
        due(11, "with the total", 1, one.reason(2));
        due(13, "another cell off the border", true, one.follows(2, 6, false));
        due(13, "not on the border", false, one.follows(0, 1, true));
        due(14, "three ways", 3, one.ways());
        due(15, "a third", "1/3", Desks.share(one, 0, 1));
        due(16, "a third", 333, one.permille(0, 1));
        due(16, "none", 0, one.permille(2, 6));
    }

    private static void hintKeepsAndForgets() {
        MineDesk desk = Desks.board(0, "-x--x", "-----", "-----");
        due(11, "no hint yet", "grade 0:", Desks.reason(desk));
        due(13, "nothing follows yet", false, desk.follows(0, 0, false));
        desk.open(2, 0);
        desk.hint();
        desk.open(0, 2);
        due(11, "kept over moves", "grade 2: 5 6", Desks.reason(desk));
        desk.undo();
        desk.undo();
        due(11, "kept though all is closed", "grade 2: 5 6", Desks.reason(desk));
        due(13, "nothing follows from closed cells", false, desk.follows(0, 2, false));
        due(10, "no hint now", 0, desk.hint());
        due(11, "forgotten by the next one", "grade 0:", Desks.reason(desk));
        desk.open(2, 0);
        desk.hint();
        desk.blank(5, 3, 0);
        due(11, "forgotten by the next board", "grade 0:", Desks.reason(desk));
        desk.open(2, 0);
        due(10, "solved without mines", 0, desk.hint());
        desk.blank(3, 3, 0);
        desk.hint();
        due(11, "a reason to be forgotten", "grade 3: and the total", Desks.reason(desk));
        desk.make(5, 5, 1, 0, 1, 1);
        due(11, "a made board has none", "grade 0:", Desks.reason(desk));
    }

    /** Mines all along the upper and the left side: a border of one part, of w + h - 1 cells. */
    private static MineDesk corner(int w, int h) {
        MineDesk desk = new MineDesk();
        desk.blank(w, h, 0);
        for (int c = 0; c < w; c++) desk.edit(0, c, true);
        for (int r = 1; r < h; r++) desk.edit(r, 0, true);
        desk.open(h - 1, w - 1);
        return desk;
    }

    private static void borderLength() {
        MineDesk longest = corner(8, 9);
        due(14, "16 cells", 1, longest.ways());
        due(15, "16 cells", "1/1", Desks.share(longest, 0, 0));
        due(16, "16 cells", 1000, longest.permille(0, 0));
        due(10, "16 cells", 2, longest.hint());
        due(11, "one number is enough", "grade 1: 9", Desks.reason(longest));
        MineDesk desk = corner(9, 9);
        due(14, "17 cells", MineDesk.NONE, desk.ways());
        dueThrow(15, "17 cells", UNSUPPORTED, () -> desk.share(0, 0, 0, 0));
        dueThrow(15, "17 cells, a wrong part", BOUNDS, () -> desk.share(0, 0, 2, 0));
        dueThrow(16, "17 cells", UNSUPPORTED, () -> desk.permille(0, 0));
        due(10, "17 cells, by grade 1", 2, desk.hint());
        due(11, "nothing is left out", "grade 1: 10 11 12 13 14 15 16 17 19 28 37 46 55 64 73", Desks.reason(desk));
        dueThrow(13, "17 cells", UNSUPPORTED, () -> desk.follows(0, 0, true));
        desk.open(0, 4);
        due(13, "16 cells and a hit one", true, desk.follows(0, 0, true));
        due(13, "16 cells and a hit one", false, desk.follows(0, 0, false));
        due(14, "16 cells and a hit one", 1, desk.ways());
        due(10, "16 cells and a hit one", 2, desk.hint());
        due(11, "now things are left out", "grade 1: 10", Desks.reason(desk));
    }

    private static void followsAsItIsNow() {
        MineDesk desk = Desks.board(0, "-x--x", "-----", "-----");
        desk.open(2, 0);
        desk.hint();
        desk.flag(0, 0);
        due(13, "flags tell nothing", false, desk.follows(0, 1, false));
        due(13, "a flagged cell is unknown", false, desk.follows(0, 0, true));
        desk.open(0, 1);
        due(13, "with the hit cell", true, desk.follows(0, 0, false));
        dueThrow(13, "a hit cell", UNSUPPORTED, () -> desk.follows(0, 1, true));
        desk.undo();
        desk.undo();
        desk.undo();
        desk.edit(0, 0, true);
        desk.edit(0, 2, true);
        desk.open(1, 0);
        desk.open(1, 1);
        due(9, "the numbers of the new mines", "-----/23---/-----", Desks.seen(desk));
        due(13, "not now: there may be fewer in row 0", false, desk.follows(0, 2, false));
        due(13, "nor is it mined for sure", false, desk.follows(0, 2, true));
    }

    private static void followsFromOpenNumbersAlone() {
        MineDesk desk = Desks.board(0, "xxx", "x-x", "xxx");
        desk.open(1, 1);
        due(10, "eight of eight", 2, desk.hint());
        due(11, "eight of eight", "grade 1: 4", Desks.reason(desk));
        due(13, "eight of eight", true, desk.follows(2, 2, true));
        desk.undo();
        due(13, "the number is not shown now", false, desk.follows(2, 2, true));
    }

    private static void countingPlacements() {
        MineDesk desk = Desks.board(1, "x---", "--x-", "----", "-x--");
        desk.open(2, 3);
        desk.open(0, 1);
        desk.open(2, 1);
        due(14, "ring", 16, desk.ways());
        due(15, "ring", "1/2", Desks.share(desk, 0, 0));
        dueThrow(15, "part 2", BOUNDS, () -> desk.share(0, 0, 2, 0));
        dueThrow(15, "part -1", BOUNDS, () -> desk.share(0, 0, -1, 0));
        dueThrow(15, "i 8", BOUNDS, () -> desk.share(0, 0, 0, 8));
        dueThrow(15, "i -1", BOUNDS, () -> desk.share(0, 0, 0, -1));
        dueThrow(15, "an open cell", UNSUPPORTED, () -> desk.share(2, 3, 0, 0));
        dueThrow(15, "an open cell, a wrong i", BOUNDS, () -> desk.share(2, 3, 0, 8));
        dueThrow(16, "an open cell", UNSUPPORTED, () -> desk.permille(2, 3));
        desk.flag(0, 0);
        due(15, "a flagged cell", "1/2", Desks.share(desk, 0, 0));
        due(14, "flags tell nothing", 16, desk.ways());
        desk.open(1, 2);
        dueThrow(16, "a hit cell", UNSUPPORTED, () -> desk.permille(1, 2));
        due(14, "no unknown cell: one way", 1, solved().ways());
    }

    private static MineDesk solved() {
        MineDesk desk = Desks.board(0, "---", "---", "---");
        desk.open(0, 0);
        return desk;
    }

    private static void longShares() {
        MineDesk desk = new MineDesk();
        desk.blank(12, 12, 0);
        for (int i = 0; i < 72; i++) desk.edit(i / 6, i % 6 * 2 + (i / 6 + 1) % 2, true);
        BigInteger all = Desks.choose(144, 72);
        due(14, "half of 144", all.mod(BigInteger.valueOf(1000000007)).intValue(), desk.ways());
        due(15, "half of 144", "1/2", Desks.share(desk, 7, 7));
        due(16, "half of 144", 500, desk.permille(11, 11));
        // A corner's 2 of 3 and a 4 of 8, which meet nowhere; then a number that meets the second one's.
        desk.open(0, 0);
        desk.open(4, 4);
        due(9, "corner", 2, desk.shown(0, 0));
        due(9, "inside", 4, desk.shown(4, 4));
        BigInteger ways = Desks.choose(3, 2).multiply(Desks.choose(8, 4)).multiply(Desks.choose(131, 66));
        due(14, "two parts", ways.mod(BigInteger.valueOf(1000000007)).intValue(), desk.ways());
        due(15, "corner", "2/3", Desks.share(desk, 0, 1));
        due(15, "inside", "1/2", Desks.share(desk, 3, 3));
        due(15, "off the border", "66/131", Desks.share(desk, 11, 11));
        due(16, "off the border", 503, desk.permille(11, 11));
        desk.open(4, 6);
        BigInteger sum = BigInteger.ZERO, shared = BigInteger.ZERO;
        for (int k = 0; k <= 3; k++) {
            BigInteger term = Desks.choose(3, k).multiply(Desks.choose(5, 4 - k).pow(2)).multiply(Desks.choose(125, 72 - 2 - 8 + k));
            sum = sum.add(term);
            shared = shared.add(term.multiply(BigInteger.valueOf(k)));
        }
        sum = sum.multiply(BigInteger.valueOf(3));
        BigInteger divisor = sum.gcd(shared);
        due(15, "where two meet", shared.divide(divisor) + "/" + sum.divide(divisor), Desks.share(desk, 4, 5));
        due(16, "where two meet", shared.multiply(BigInteger.valueOf(1000)).divide(sum).intValue(), desk.permille(4, 5));
    }

    private static void counts() {
        MineDesk desk = Desks.board(2, "-----", "-x---", "-----", "---x-", "-----");
        desk.open(4, 0);
        due(17, "comb", "5 5 2 11 0 3 1 0 4", Desks.counts(desk));
        dueThrow(17, "9", BOUNDS, () -> desk.count(9));
        dueThrow(17, "-1", BOUNDS, () -> desk.count(-1));
        due(17, "rim of zeros", 1, Desks.board(0, "-----", "-----", "--x--", "-----", "-----").count(8));
        due(17, "each by itself", 8, Desks.board(0, "---", "-x-", "---").count(8));
        due(17, "two fields of zeros", 2, Desks.board(0, "---x---", "---x---", "---x---").count(8));
        due(17, "a ring has one field", 1, Desks.board(1, "---x---", "---x---", "---x---").count(8));
        due(17, "no zeros", 3, Desks.board(0, "x-x", "x-x", "x-x").count(8));
        MineDesk part = Desks.board(0, "---x---", "---x---", "---x---");
        part.open(0, 2);
        due(17, "an open number changes nothing", 2, part.count(8));
        part.flag(0, 0);
        due(17, "nor does a flag", 2, part.count(8));
        part.open(1, 0);
        due(17, "one field less", 1, part.count(8));
        part.open(1, 3);
        due(17, "nor does a hit", 1, part.count(8));
        due(17, "now", "3 7 3 9 0 2 4 0 1", Desks.counts(part));
        part.open(1, 6);
        due(17, "solved", "3 7 3 18 0 2 5 1 0", Desks.counts(part));
    }

    /** What is answered there is free, but nothing may be thrown that no call throws. */
    private static void beyondTheLimit() {
        MineDesk desk = Desks.board(0, "x--", "---", "---");
        int thrown = 0;
        for (int i = 0; i < 2000; i++) {
            try {
                desk.flag(i % 3, i / 3 % 3);
            } catch (UnsupportedOperationException e) {
                thrown++;
            }
        }
        due(6, "512 moves are kept at least", true, desk.count(6) >= 500 && thrown <= 1500);
    }
}
