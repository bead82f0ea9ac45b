import java.math.BigInteger;
import java.util.Arrays;

/** The boundary cases that the promises name: for each such sentence a test of its own. */
public final class BoundaryPromisesTest {
    private static final Class<IllegalStateException> STATE = IllegalStateException.class;
    private static final Class<IllegalArgumentException> ARGUMENT = IllegalArgumentException.class;
    private static final Class<IndexOutOfBoundsException> BOUNDS = IndexOutOfBoundsException.class;
    private static final Class<UnsupportedOperationException> UNSUPPORTED = UnsupportedOperationException.class;
    private static final int LOWEST = Integer.MIN_VALUE;
    private static final int HIGHEST = Integer.MAX_VALUE;
    private static final int PAIRS = 6;
    private static final Checks checks = new Checks();

    public static void main(String[] args) {
        newObject();
        make();
        makeRefused();
        blank();
        edit();
        allCalls();
        open();
        flag();
        chord();
        chordBeyondTheLastLife();
        undo();
        shown();
        hint();
        reason();
        follows();
        followsOfALongReason();
        ways();
        share();
        permille();
        count();
        leastOpenings();
        checks.end();
    }

    private static void about(int promise, String words) {
        checks.about("promise " + promise + ", " + words);
    }

    private static void due(String what, Object want, Object got) {
        checks.due(what, want, got);
    }

    private static void dueThrow(String what, Class<? extends RuntimeException> want, Checks.Call call) {
        checks.dueThrow(what, want, call);
    }

    private static MineDesk board(int shape, String... rows) {
        return Desks.board(shape, rows);
    }

    /** Every call but make and blank, with arguments that are wrong in other ways too. */
    private static void dueNoBoard(String when, MineDesk desk) {
        dueThrow(when + ": edit", STATE, () -> desk.edit(-1, 0, true));
        dueThrow(when + ": open", STATE, () -> desk.open(0, 99));
        dueThrow(when + ": flag", STATE, () -> desk.flag(99, 0));
        dueThrow(when + ": chord", STATE, () -> desk.chord(0, 0));
        dueThrow(when + ": undo", STATE, desk::undo);
        dueThrow(when + ": shown", STATE, () -> desk.shown(0, 0));
        dueThrow(when + ": hint", STATE, desk::hint);
        dueThrow(when + ": reason", STATE, () -> desk.reason(0));
        dueThrow(when + ": reason, a wrong what", STATE, () -> desk.reason(3));
        dueThrow(when + ": reasonCell", STATE, () -> desk.reasonCell(-1));
        dueThrow(when + ": follows", STATE, () -> desk.follows(0, 0, true));
        dueThrow(when + ": ways", STATE, desk::ways);
        dueThrow(when + ": share", STATE, () -> desk.share(0, 0, 0, 0));
        dueThrow(when + ": share, a wrong part", STATE, () -> desk.share(0, 0, 2, 0));
        dueThrow(when + ": permille", STATE, () -> desk.permille(0, 0));
        dueThrow(when + ": count", STATE, () -> desk.count(0));
        dueThrow(when + ": count, a wrong what", STATE, () -> desk.count(9));
    }

    private static void newObject() {
        about(1, "No board");
        MineDesk desk = new MineDesk();
        dueNoBoard("new", desk);
        dueThrow("make refused", ARGUMENT, () -> desk.make(2, 2, 1, 0, 1, 1));
        dueThrow("blank refused", ARGUMENT, () -> { desk.blank(2, 2, 0); return 0; });
        dueNoBoard("after refused calls", desk);
        about(1, "NONE = -1: Nothing there");
        due("NONE", -1, MineDesk.NONE);
    }

    private static void make() {
        about(2, "1, and it is there with all cells closed");
        MineDesk desk = board(0, "xxx", "---", "---");
        desk.open(0, 0);
        desk.flag(0, 1);
        due("made", 1, desk.make(5, 4, 3, 0, 15, 3));
        due("closed, with its mines, three lives and no moves", "4 5 3 0 0 3 0", Desks.counts(desk).substring(0, 13));
        due("closed", "-----/-----/-----/-----", Desks.seen(desk));
        due("no reason", "grade 0:", Desks.reason(desk));
        dueThrow("no move", UNSUPPORTED, desk::undo);
        about(2, "0 when it was given up, and there is no board");
        MineDesk given = board(0, "-x-", "---", "---");
        given.hint();
        given.flag(0, 0);
        due("given up", 0, given.make(4, 3, 1, 0, 5, 1));
        dueNoBoard("given up", given);
        given.blank(3, 3, 0);
        due("a new board", "3 3 0 0 0 3 0 0 1", Desks.counts(given));
        due("given up again", 0, given.make(4, 3, 1, 0, 5, 1));
        due("made", 1, given.make(4, 3, 1, 0, 5, 2));
        due("made", "3 4 1 0 0 3 0", Desks.counts(given).substring(0, 13));
    }

    private static void makeRefused() {
        about(2, "IllegalArgumentException, when there are no such sizes or shape");
        MineDesk desk = new MineDesk();
        for (int side : new int[] {LOWEST, -1, 0, 2, 13, HIGHEST}) {
            dueThrow("width " + side, ARGUMENT, () -> desk.make(side, 6, 1, 0, 1, 1));
            dueThrow("height " + side, ARGUMENT, () -> desk.make(6, side, 1, 0, 1, 1));
        }
        for (int shape : new int[] {LOWEST, -1, 4, HIGHEST}) {
            dueThrow("shape " + shape, ARGUMENT, () -> desk.make(6, 6, 1, shape, 1, 1));
        }
        dueThrow("odd comb ring", ARGUMENT, () -> desk.make(6, 7, 1, 3, 1, 1));
        about(2, "no mines");
        for (int mines : new int[] {LOWEST, -1, 0}) {
            dueThrow(mines + " mines", ARGUMENT, () -> desk.make(6, 6, mines, 0, 1, 1));
        }
        due("one mine", 1, desk.make(6, 6, 1, 0, 0, 3));
        about(2, "more than free cells");
        int[][] sizes = {{3, 4}, {4, 3}, {4, 4}, {5, 6}, {12, 12}};
        for (int[] size : sizes) for (int shape = 0; shape < 4; shape++) {
            int w = size[0], h = size[1], form = shape, free = w * h - (shape < 2 ? 9 : 7);
            if (shape == 3 && h % 2 == 1) continue;
            due("all free cells of " + w + " by " + h + ", shape " + shape, 1, desk.make(w, h, free, shape, 3, 1));
            dueThrow("one more", ARGUMENT, () -> desk.make(w, h, free + 1, form, 3, 1));
            dueThrow("far more", ARGUMENT, () -> desk.make(w, h, HIGHEST, form, 3, 1));
        }
        dueThrow("none free in a plane of 3 by 3", ARGUMENT, () -> desk.make(3, 3, 1, 0, 3, 1));
        dueThrow("none free in a ring of 3 by 3", ARGUMENT, () -> desk.make(3, 3, 1, 1, 3, 1));
        due("two free in a comb of 3 by 3", 1, desk.make(3, 3, 2, 2, 3, 1));
        dueThrow("three in a comb of 3 by 3", ARGUMENT, () -> desk.make(3, 3, 3, 2, 3, 1));
        about(2, "or grade is not 1 .. 3");
        for (int grade : new int[] {LOWEST, -1, 0, 4, HIGHEST}) {
            dueThrow("grade " + grade, ARGUMENT, () -> desk.make(6, 6, 1, 0, 1, grade));
        }
        for (int grade = 1; grade <= 3; grade++) due("grade " + grade, 1, desk.make(6, 6, 1, 0, 0, grade));
        about(2, "(the board before stays)");
        MineDesk kept = board(0, "-x--x", "-----", "-----");
        kept.open(2, 0);
        kept.flag(0, 1);
        kept.hint();
        String before = Desks.all(kept);
        dueThrow("no such size", ARGUMENT, () -> kept.make(2, 6, 1, 0, 1, 1));
        dueThrow("no such shape", ARGUMENT, () -> kept.make(6, 6, 1, 4, 1, 1));
        dueThrow("no mines", ARGUMENT, () -> kept.make(6, 6, 0, 0, 1, 1));
        dueThrow("too many mines", ARGUMENT, () -> kept.make(6, 6, 28, 0, 1, 1));
        dueThrow("no such grade", ARGUMENT, () -> kept.make(6, 6, 1, 0, 1, 4));
        due("it stays with all that was done", before, Desks.all(kept));
        due("its reason stays", true, kept.follows(0, 2, false));
        due("its moves stay", 1, kept.undo());
        kept.undo();
        due("it is still one to be edited", 3, kept.edit(0, 0, true));
    }

    private static void blank() {
        about(3, "A board without mines");
        MineDesk desk = new MineDesk();
        for (int shape = 0; shape < 4; shape++) {
            desk.blank(12, 12, shape);
            due("no mines", "12 12 0 0 0 3 0 0 1", Desks.counts(desk));
            due("all open at once", 0, desk.open(11, 11));
            due("all open", "12 12 0 144 0 3 1 1 0", Desks.counts(desk));
        }
        desk.make(4, 3, 3, 0, 1, 1);
        desk.flag(0, 0);
        desk.blank(4, 3, 0);
        due("nothing is left of the board before", "3 4 0 0 0 3 0 0 1", Desks.counts(desk));
        due("no mines are left", 0, desk.open(0, 1));
        about(3, "IllegalArgumentException, when there are no such sizes or shape");
        MineDesk kept = board(0, "x--", "---", "---");
        for (int side : new int[] {LOWEST, -1, 0, 2, 13, HIGHEST}) {
            dueThrow("width " + side, ARGUMENT, () -> { kept.blank(side, 6, 0); return 0; });
            dueThrow("height " + side, ARGUMENT, () -> { kept.blank(6, side, 0); return 0; });
        }
        for (int shape : new int[] {LOWEST, -1, 4, HIGHEST}) {
            dueThrow("shape " + shape, ARGUMENT, () -> { kept.blank(6, 6, shape); return 0; });
        }
        dueThrow("odd comb ring", ARGUMENT, () -> { kept.blank(6, 11, 3); return 0; });
        due("a refused call changes nothing", "3 3 1 0 0 3 0 0 1", Desks.counts(kept));
    }

    private static void edit() {
        about(4, "A cell has a mine from now on, or none: how many there are");
        MineDesk desk = new MineDesk();
        desk.blank(3, 4, 0);
        due("none where none is", 0, desk.edit(0, 0, false));
        due("the first", 1, desk.edit(0, 0, true));
        due("the same again", 1, desk.edit(0, 0, true));
        for (int cell = 1; cell < 12; cell++) due("one more", cell + 1, desk.edit(cell / 3, cell % 3, true));
        due("all cells", 12, desk.count(2));
        for (int cell = 11; cell >= 0; cell--) due("one less", cell, desk.edit(cell / 3, cell % 3, false));
        due("none again", 0, desk.open(1, 1));
        about(4, "unless the board is one that began as blank()");
        MineDesk made = new MineDesk();
        made.make(4, 3, 3, 0, 1, 1);
        dueThrow("a made board", UNSUPPORTED, () -> made.edit(0, 0, true));
        made.flag(0, 0);
        made.undo();
        dueThrow("a made board with all moves taken back", UNSUPPORTED, () -> made.edit(0, 0, true));
        made.blank(4, 3, 0);
        due("a blank board after it", 1, made.edit(0, 0, true));
        made.make(4, 3, 3, 0, 1, 1);
        dueThrow("a made board after a blank one", UNSUPPORTED, () -> made.edit(0, 0, true));
        about(4, "and no move was made since (or all were taken back)");
        MineDesk moved = board(0, "x--", "---", "---");
        moved.open(1, 1);
        dueThrow("after open", UNSUPPORTED, () -> moved.edit(0, 1, true));
        moved.flag(0, 0);
        moved.undo();
        dueThrow("one of two is taken back", UNSUPPORTED, () -> moved.edit(0, 1, true));
        moved.undo();
        due("both are taken back", 2, moved.edit(0, 1, true));
        moved.flag(0, 0);
        moved.flag(0, 0);
        dueThrow("flagged and closed again", UNSUPPORTED, () -> moved.edit(0, 1, false));
        moved.undo();
        moved.undo();
        dueThrow("a move that was refused is none", UNSUPPORTED, () -> moved.chord(0, 0));
        moved.hint();
        due("a hint is no move", 1, moved.edit(0, 1, false));
    }

    private static void allCalls() {
        about(4, "For all calls: IndexOutOfBoundsException, when there is no such cell");
        MineDesk desk = board(0, "x---", "----", "---x");
        int[][] wrong = {{-1, 0}, {0, -1}, {3, 0}, {0, 4}, {3, 3}, {2, 4}, {LOWEST, 0}, {0, LOWEST}, {HIGHEST, 0}, {0, HIGHEST}};
        for (int moved = 0; moved < 2; moved++) {
            for (int[] at : wrong) {
                String cell = "row " + at[0] + ", column " + at[1];
                dueThrow("edit, " + cell, BOUNDS, () -> desk.edit(at[0], at[1], true));
                dueThrow("open, " + cell, BOUNDS, () -> desk.open(at[0], at[1]));
                dueThrow("flag, " + cell, BOUNDS, () -> desk.flag(at[0], at[1]));
                dueThrow("chord, " + cell, BOUNDS, () -> desk.chord(at[0], at[1]));
                dueThrow("shown, " + cell, BOUNDS, () -> desk.shown(at[0], at[1]));
                dueThrow("follows, " + cell, BOUNDS, () -> desk.follows(at[0], at[1], true));
                dueThrow("share, " + cell, BOUNDS, () -> desk.share(at[0], at[1], 0, 0));
                dueThrow("permille, " + cell, BOUNDS, () -> desk.permille(at[0], at[1]));
            }
            if (moved == 0) desk.open(1, 1);
        }
        due("nothing has changed", "3 4 2 1 0 3 1 0 2", Desks.counts(desk));
    }

    private static void open() {
        about(5, "Opens a closed cell: its number, or 9 when it is hit");
        MineDesk desk = board(0, "xx-", "---", "---");
        due("a number", 2, desk.open(1, 0));
        due("a mine", 9, desk.open(0, 0));
        due("a zero", 0, desk.open(2, 2));
        about(5, "UnsupportedOperationException, when it is not closed");
        dueThrow("open", UNSUPPORTED, () -> desk.open(1, 0));
        dueThrow("open, a zero", UNSUPPORTED, () -> desk.open(2, 2));
        dueThrow("hit", UNSUPPORTED, () -> desk.open(0, 0));
        desk.flag(0, 1);
        dueThrow("flagged", UNSUPPORTED, () -> desk.open(0, 1));
        desk.flag(0, 1);
        due("closed again", 9, desk.open(0, 1));
        about(5, "or all is over");
        MineDesk over = board(0, "xxx", "---", "---");
        over.open(0, 0);
        over.open(0, 1);
        due("the last life", 9, over.open(0, 2));
        dueThrow("over", UNSUPPORTED, () -> over.open(2, 2));
        due("nothing was done", "***/---/---", Desks.seen(over));
        over.undo();
        due("a life again", 0, over.open(2, 2));
    }

    private static void flag() {
        about(6, "A closed cell is flagged, a flagged one closed: whether it is flagged");
        MineDesk desk = board(0, "xxx", "---", "---");
        due("flagged", true, desk.flag(0, 0));
        due("closed", false, desk.flag(0, 0));
        due("flagged again", true, desk.flag(0, 0));
        due("more flags than mines", "true true true", desk.flag(1, 0) + " " + desk.flag(1, 1) + " " + desk.flag(1, 2));
        due("flags", 4, desk.count(4));
        due("moves", 6, desk.count(6));
        about(6, "UnsupportedOperationException, when it is neither");
        desk.open(0, 1);
        dueThrow("hit", UNSUPPORTED, () -> desk.flag(0, 1));
        desk.open(2, 0);
        dueThrow("open", UNSUPPORTED, () -> desk.flag(2, 0));
        dueThrow("flagged and opened by a zero", UNSUPPORTED, () -> desk.flag(1, 1));
        about(6, "or all is over");
        MineDesk over = board(0, "xxxx", "----", "----");
        over.flag(2, 0);
        for (int c = 0; c < 3; c++) over.open(0, c);
        dueThrow("a closed cell", UNSUPPORTED, () -> over.flag(2, 2));
        dueThrow("a flagged cell", UNSUPPORTED, () -> over.flag(2, 0));
        due("nothing was done", "***-/----/!---", Desks.seen(over));
    }

    private static void chord() {
        about(7, "Opens all closed neighbours of an open cell, in reading order: how many cells are no more unknown");
        MineDesk one = board(0, "x-x", "---", "---");
        for (int cell : new int[] {4, 3, 5}) one.open(cell / 3, cell % 3);
        one.flag(0, 0);
        one.flag(0, 2);
        due("zeros open on, each cell is told once", 4, one.chord(1, 1));
        MineDesk flagged = board(0, "x----", "-----", "-----", "-----");
        flagged.open(1, 1);
        flagged.flag(0, 0);
        flagged.flag(0, 3);
        flagged.flag(3, 3);
        due("flagged cells that a zero opens are told, too", 18, flagged.chord(1, 1));
        due("the flag next to it stays", "!1000/11000/00000/00000", Desks.seen(flagged));
        MineDesk round = board(1, "x---", "----", "----", "----");
        round.open(3, 3);
        round.flag(0, 0);
        due("round the corner of a ring", 14, round.chord(3, 3));
        about(7, "UnsupportedOperationException, when it is not open");
        MineDesk desk = board(0, "x--", "---", "---");
        dueThrow("closed", UNSUPPORTED, () -> desk.chord(2, 2));
        desk.flag(2, 2);
        dueThrow("flagged", UNSUPPORTED, () -> desk.chord(2, 2));
        desk.open(0, 0);
        dueThrow("hit, with no mines around", UNSUPPORTED, () -> desk.chord(0, 0));
        about(7, "its number is not that of its flagged and hit neighbours together");
        MineDesk two = board(0, "xx--", "----", "----");
        two.open(1, 1);
        dueThrow("2, none", UNSUPPORTED, () -> two.chord(1, 1));
        two.flag(0, 0);
        dueThrow("2, one flag", UNSUPPORTED, () -> two.chord(1, 1));
        two.open(0, 1);
        due("2, a flag and a hit", 9, two.chord(1, 1));
        two.undo();
        two.flag(2, 2);
        dueThrow("2, two flags and a hit", UNSUPPORTED, () -> two.chord(1, 1));
        two.flag(2, 2);
        two.flag(0, 3);
        due("a flag that is no neighbour", 9, two.chord(1, 1));
        two.undo();
        two.flag(0, 0);
        two.open(0, 0);
        due("2, two hits", 9, two.chord(1, 1));
        about(7, "none is closed");
        MineDesk none = board(0, "x--", "---", "---");
        none.open(2, 2);
        dueThrow("1, a closed mine, no flag", UNSUPPORTED, () -> none.chord(1, 1));
        none.flag(0, 0);
        dueThrow("1, all others open", UNSUPPORTED, () -> none.chord(1, 1));
        dueThrow("0, all others open", UNSUPPORTED, () -> none.chord(2, 2));
        MineDesk all = board(0, "xxx", "x-x", "xxx");
        all.open(1, 1);
        for (int cell : new int[] {0, 1, 2, 3, 5, 6, 7}) all.flag(cell / 3, cell % 3);
        dueThrow("8, seven flags", UNSUPPORTED, () -> all.chord(1, 1));
        all.flag(2, 2);
        dueThrow("8, eight flags", UNSUPPORTED, () -> all.chord(1, 1));
        about(7, "or all is over");
        MineDesk over = board(0, "xxx", "---", "---");
        over.open(1, 1);
        for (int c = 0; c < 3; c++) over.open(0, c);
        dueThrow("3, three hits, but no life", UNSUPPORTED, () -> over.chord(1, 1));
        due("nothing was done", "***/-3-/---", Desks.seen(over));
    }

    private static void chordBeyondTheLastLife() {
        about(7, "(Lives are not asked in between; they may come to be below 0.)");
        MineDesk desk = board(0, "xxx", "---", "---");
        desk.open(1, 1);
        for (int cell : new int[] {3, 5, 6}) desk.flag(cell / 3, cell % 3);
        due("after the third hit it goes on", 8, desk.chord(1, 1));
        due("all cells", "***/232/000", Desks.seen(desk));
        due("no life, and solved", "0 1", desk.count(5) + " " + desk.count(7));
        MineDesk below = board(0, "xxx----", "x------", "-----xx");
        below.open(1, 1);
        below.open(2, 5);
        below.open(2, 6);
        due("one life", 1, below.count(5));
        for (int cell : new int[] {9, 14, 15, 16}) below.flag(cell / 7, cell % 7);
        due("four hits more", 4, below.chord(1, 1));
        due("lives", -3, below.count(5));
        dueThrow("over: open", UNSUPPORTED, () -> below.open(0, 6));
        dueThrow("over: flag", UNSUPPORTED, () -> below.flag(0, 6));
        due("taken back", 7, below.undo());
        due("lives", 1, below.count(5));
        due("goes on", true, below.flag(0, 6));
    }

    private static void undo() {
        about(8, "Takes back the latest move: how many are left");
        MineDesk desk = board(0, "x--", "---", "---");
        desk.flag(0, 0);
        desk.flag(0, 0);
        desk.open(0, 0);
        desk.open(2, 2);
        due("four moves", 3, desk.undo());
        due("three moves", 2, desk.undo());
        due("two moves", 1, desk.undo());
        due("the flag is there", 11, desk.shown(0, 0));
        due("one move", 0, desk.undo());
        due("as at first", "3 3 1 0 0 3 0 0 1", Desks.counts(desk));
        about(8, "UnsupportedOperationException, when there is none");
        dueThrow("all are taken back", UNSUPPORTED, desk::undo);
        desk.open(2, 2);
        desk.blank(3, 3, 0);
        dueThrow("a new board", UNSUPPORTED, desk::undo);
        desk.open(0, 0);
        desk.make(4, 3, 3, 0, 1, 1);
        dueThrow("a made board", UNSUPPORTED, desk::undo);
        MineDesk over = board(0, "xxx", "---", "---");
        for (int c = 0; c < 3; c++) over.open(0, c);
        due("over is no hindrance", 2, over.undo());
    }

    private static void shown() {
        about(9, "What a player sees of a cell: its number, 10 closed, 11 flagged, 12 hit");
        MineDesk desk = board(0, "xxx", "x-x", "xxx");
        due("closed", 10, desk.shown(1, 1));
        desk.open(1, 1);
        due("8", 8, desk.shown(1, 1));
        desk.flag(0, 0);
        due("flagged", 11, desk.shown(0, 0));
        desk.open(0, 1);
        due("hit", 12, desk.shown(0, 1));
        desk.flag(0, 0);
        due("closed again", 10, desk.shown(0, 0));
        due("a mine that is closed", 10, desk.shown(2, 2));
        MineDesk zero = board(0, "---", "---", "---");
        zero.open(1, 1);
        due("0", 0, zero.shown(0, 0));
    }

    private static void hint() {
        about(10, "1 + 2 times the cell, and 1 more when it is mined");
        due("cell 0, safe", 1, board(0, "---", "---", "---").hint());
        due("cell 0, mined", 2, board(0, "xxx", "xxx", "xxx").hint());
        MineDesk mined = new MineDesk();
        mined.blank(12, 12, 0);
        for (int cell = 0; cell < 144; cell++) mined.edit(cell / 12, cell % 12, true);
        for (int cell = 0; cell < 143; cell++) mined.flag(cell / 12, cell % 12);
        due("cell 143, mined", 288, mined.hint());
        // Around the last cell are mines alone, which are found: of the total none is left for it.
        MineDesk safe = new MineDesk();
        safe.blank(12, 12, 0);
        for (int cell : new int[] {130, 131, 142}) safe.edit(cell / 12, cell % 12, true);
        safe.open(0, 0);
        for (int cell : new int[] {130, 131, 142}) safe.flag(cell / 12, cell % 12);
        due("cell 143, safe", 287, safe.hint());
        due("cell 143, safe", "grade 3: 118 129 and the total", Desks.reason(safe));
        about(10, "0 when there is none");
        due("nothing is sure", 0, board(0, "x--", "---", "---").hint());
        safe.open(11, 11);
        due("solved, all mines flagged", 0, safe.hint());
        MineDesk all = board(0, "---", "---", "---");
        all.open(0, 0);
        due("no unknown cell", 0, all.hint());
        about(10, "Its reason is kept until the next hint() or board");
        MineDesk desk = board(0, "-x--x", "-----", "-----");
        desk.open(2, 0);
        desk.hint();
        desk.open(0, 2);
        desk.flag(0, 1);
        due("kept over moves", "grade 2: 5 6", Desks.reason(desk));
        for (int i = 0; i < 3; i++) desk.undo();
        desk.edit(1, 1, true);
        due("kept over undo and edit", "grade 2: 5 6", Desks.reason(desk));
        dueThrow("kept over a refused board", ARGUMENT, () -> { desk.blank(5, 13, 0); return 0; });
        due("kept over a refused board", "grade 2: 5 6", Desks.reason(desk));
        due("the next hint is none", 0, desk.hint());
        due("the next hint is none", "grade 0:", Desks.reason(desk));
        MineDesk next = board(0, "-x--x", "-----", "-----");
        next.open(2, 0);
        next.hint();
        next.blank(5, 3, 0);
        due("the next board", "grade 0:", Desks.reason(next));
        next.hint();
        due("of the next board", "grade 3: and the total", Desks.reason(next));
        next.make(4, 3, 3, 0, 1, 1);
        due("a made board", "grade 0:", Desks.reason(next));
        next.blank(5, 3, 0);
        next.hint();
        next.make(4, 3, 1, 0, 5, 1);
        next.blank(5, 3, 0);
        due("a board that was given up, and the next one", "grade 0:", Desks.reason(next));
    }

    private static void reason() {
        MineDesk desk = board(0, "-x--x", "-----", "-----");
        about(11, "0 for all, when there was none");
        for (int what = 0; what < 3; what++) due("no hint yet, " + what, 0, desk.reason(what));
        due("a hint of 0", 0, desk.hint());
        for (int what = 0; what < 3; what++) due("a hint of 0, " + what, 0, desk.reason(what));
        about(11, "IndexOutOfBoundsException, for another what");
        for (int what : new int[] {LOWEST, -1, 3, HIGHEST}) {
            dueThrow("no hint, what " + what, BOUNDS, () -> desk.reason(what));
        }
        about(12, "IndexOutOfBoundsException, when there is none");
        for (int k : new int[] {LOWEST, -1, 0, HIGHEST}) dueThrow("no hint, k " + k, BOUNDS, () -> desk.reasonCell(k));
        desk.open(2, 0);
        desk.hint();
        for (int k : new int[] {LOWEST, -1, 2, HIGHEST}) dueThrow("two numbers, k " + k, BOUNDS, () -> desk.reasonCell(k));
        MineDesk total = board(0, "---", "---", "---");
        total.hint();
        dueThrow("the total is no number", BOUNDS, () -> total.reasonCell(0));
        about(11, "its grade (0), how many numbers its reason has (1), whether it has the total (2: 1, else 0)");
        due("by two numbers", "2 2 0", desk.reason(0) + " " + desk.reason(1) + " " + desk.reason(2));
        due("by the total", "3 0 1", total.reason(0) + " " + total.reason(1) + " " + total.reason(2));
        for (int what : new int[] {-1, 3}) dueThrow("a hint, what " + what, BOUNDS, () -> desk.reason(what));
        about(12, "The k-th number of that reason in reading order: its cell");
        due("the first, from 0", 5, desk.reasonCell(0));
        due("the second", 6, desk.reasonCell(1));
    }

    private static void follows() {
        about(13, "Whether from that reason it follows that a cell, which is unknown, is mined, or safe");
        MineDesk desk = board(0, "-x--x", "-----", "-----");
        desk.open(2, 0);
        due("no hint yet", false, desk.follows(0, 2, false));
        desk.hint();
        due("safe", true, desk.follows(0, 2, false));
        due("not mined", false, desk.follows(0, 2, true));
        due("next to its numbers, but open", "false false", desk.follows(0, 0, true) + " " + desk.follows(0, 0, false));
        due("not next to its numbers", "false false", desk.follows(0, 3, true) + " " + desk.follows(0, 3, false));
        about(13, "with the numbers and unknown cells as they are now");
        desk.flag(0, 2);
        due("a flagged cell is unknown", true, desk.follows(0, 2, false));
        desk.open(0, 1);
        due("a mine was hit: the rest is 0", true, desk.follows(0, 0, false));
        desk.undo();
        desk.open(0, 0);
        due("a cell was opened: the other is mined", true, desk.follows(0, 1, true));
        MineDesk blank = board(0, "---", "---", "---");
        blank.hint();
        due("the total is 0", true, blank.follows(2, 2, false));
        blank.edit(0, 0, true);
        due("the total is 1 now", "false false", blank.follows(2, 2, false) + " " + blank.follows(2, 2, true));
        for (int cell = 1; cell < 9; cell++) blank.edit(cell / 3, cell % 3, true);
        due("the total is 9 now", true, blank.follows(2, 2, true));
        MineDesk left = board(0, "-x-----", "-------", "-------");
        left.open(0, 0);
        left.hint();
        due("the number and the total", "grade 3: 0 and the total", Desks.reason(left));
        due("the mine is at one of three cells", "false true", left.follows(1, 0, false) + " " + left.follows(2, 6, false));
        left.open(0, 1);
        due("no mine is left", "true true", left.follows(1, 0, false) + " " + left.follows(2, 6, false));
        about(13, "(of its cells those that are open)");
        MineDesk some = board(0, "----", "----", "x--x");
        for (int cell : new int[] {5, 6, 10, 4, 9}) some.open(cell / 4, cell % 4);
        due("by cell 9, and by cell 4 then", 1, some.hint());
        due("by cell 9, and by cell 4 then", "grade 1: 4 9", Desks.reason(some));
        due("both are open", true, some.follows(0, 0, false));
        some.undo();
        due("cell 9 is closed", false, some.follows(0, 0, false));
        some.open(2, 1);
        due("both are open again", true, some.follows(0, 0, false));
        for (int i = 0; i < 5; i++) some.undo();
        due("none is open", false, some.follows(0, 0, false));
        about(13, "UnsupportedOperationException, when it is not unknown");
        MineDesk known = board(0, "x--", "---", "---");
        known.open(0, 1);
        dueThrow("open, no hint", UNSUPPORTED, () -> known.follows(0, 1, true));
        known.open(0, 0);
        known.hint();
        dueThrow("open", UNSUPPORTED, () -> known.follows(0, 1, false));
        dueThrow("hit", UNSUPPORTED, () -> known.follows(0, 0, true));
    }

    /** Mines all along the upper and the left side: a border of one part, of w + h - 1 cells. */
    private static MineDesk corner(int w, int h) {
        MineDesk desk = new MineDesk();
        desk.blank(w, h, 0);
        for (int c = 0; c < w; c++) desk.edit(0, c, true);
        for (int r = 1; r < h; r++) desk.edit(r, 0, true);
        desk.open(h - 1, w - 1);
        return desk;
    }

    private static void followsOfALongReason() {
        about(13, "or the unknowns of the reason's numbers have a part (by these numbers) that is too long");
        MineDesk desk = corner(9, 9);
        desk.hint();
        due("its numbers", 15, desk.reason(1));
        dueThrow("17 cells", UNSUPPORTED, () -> desk.follows(0, 0, true));
        dueThrow("17 cells, a cell of the side", UNSUPPORTED, () -> desk.follows(8, 0, false));
        desk.open(0, 0);
        due("16 cells, and a hit one", true, desk.follows(0, 1, true));
        due("16 cells, and a hit one", false, desk.follows(0, 1, false));
        desk.undo();
        dueThrow("17 cells again", UNSUPPORTED, () -> desk.follows(0, 0, true));
        MineDesk longer = corner(10, 10);
        longer.hint();
        longer.open(0, 0);
        dueThrow("18 cells, and a hit one", UNSUPPORTED, () -> longer.follows(0, 1, true));
        MineDesk few = corner(8, 9);
        few.hint();
        due("one number of 16 cells", "grade 1: 9", Desks.reason(few));
        due("one number", true, few.follows(0, 0, true));
        due("not next to it", false, few.follows(8, 0, true));
    }

    private static void ways() {
        about(14, "How many placements there are, modulo 1000000007");
        MineDesk desk = new MineDesk();
        desk.blank(12, 12, 1);
        due("none to put: one way", 1, desk.ways());
        for (int mines = 1; mines <= 144; mines++) {
            desk.edit((mines - 1) / 12, (mines - 1) % 12, true);
            int due = Desks.choose(144, mines).mod(BigInteger.valueOf(1000000007)).intValue();
            due(mines + " of 144", due, desk.ways());
        }
        about(14, "NONE, when the border is too long");
        due("16 cells", 1, corner(8, 9).ways());
        due("17 cells", -1, corner(9, 9).ways());
        due("23 cells", -1, corner(12, 12).ways());
    }

    private static void share() {
        about(15, "as a fraction in lowest terms (0 is 0 / 1)");
        MineDesk none = board(0, "---", "---", "---");
        due("none", "0/1", Desks.share(none, 0, 0));
        due("all", "1/1", Desks.share(board(0, "xxx", "xxx", "xxx"), 2, 2));
        due("3 of 9", "1/3", Desks.share(board(0, "xxx", "---", "---"), 2, 2));
        due("4 of 9", "4/9", Desks.share(board(0, "xxx", "x--", "---"), 2, 2));
        MineDesk ones = board(0, "-x--x", "-----", "-----");
        ones.open(2, 0);
        due("1 of 2", "1/2", Desks.share(ones, 0, 4));
        due("0 of 2", "0/1", Desks.share(ones, 0, 2));
        about(15, "bits 31 * i to 31 * i + 30 of the upper number (part 0) or the lower one (1)");
        longFraction();
        about(15, "i is 0 .. 7");
        for (int part = 0; part < 2; part++) {
            for (int i = 1; i < 8; i++) due("part " + part + ", i " + i, 0, none.share(0, 0, part, i));
        }
        about(15, "IndexOutOfBoundsException, also for another part or i");
        for (int wrong : new int[] {LOWEST, -1, 2, HIGHEST}) {
            dueThrow("part " + wrong, BOUNDS, () -> none.share(0, 0, wrong, 0));
            dueThrow("part " + wrong + " of an open cell", BOUNDS, () -> ones.share(2, 0, wrong, 0));
        }
        for (int wrong : new int[] {LOWEST, -1, 8, HIGHEST}) {
            dueThrow("i " + wrong, BOUNDS, () -> none.share(0, 0, 0, wrong));
            dueThrow("i " + wrong + " of an open cell", BOUNDS, () -> ones.share(2, 0, 1, wrong));
        }
        about(15, "UnsupportedOperationException, when the cell is not unknown");
        for (int i = 0; i < 8; i++) {
            int at = i;
            dueThrow("open, i " + i, UNSUPPORTED, () -> ones.share(2, 0, 0, at));
        }
        ones.open(0, 1);
        dueThrow("hit", UNSUPPORTED, () -> ones.share(0, 1, 1, 0));
        ones.flag(0, 0);
        due("flagged", "0/1", Desks.share(ones, 0, 0));
        // "There is no placement" never comes about: the mines as they are make one.
        about(15, "or the border is too long");
        MineDesk tooLong = corner(9, 9);
        for (int i = 0; i < 8; i++) {
            int at = i;
            dueThrow("17 cells, i " + i, UNSUPPORTED, () -> tooLong.share(0, 0, 1, at));
        }
        due("16 cells", "1/1", Desks.share(corner(8, 9), 0, 0));
    }

    /**
     * Pairs of numbers far from each other, each next to eight cells, of which the two share three: with j of the three
     * mined there are n - j and m - j mines on the five that each has alone.
     */
    private static void longFraction() {
        MineDesk desk = new MineDesk();
        desk.blank(12, 12, 0);
        int mines = 0;
        for (int r = 0; r < 12; r++) for (int c = 0; c < 12; c++) {
            boolean safe = r % 3 == 1 && c % 6 % 2 == 1 || (r * 5 + c * 3) % 7 > 2;
            if (!safe) mines = desk.edit(r, c, true);
        }
        BigInteger[] all = {BigInteger.ONE}, mined = {BigInteger.ONE};
        for (int pair = 0; pair < PAIRS; pair++) {
            int r = 1 + pair / 2 * 3, c = 1 + pair % 2 * 6;
            BigInteger[][] ways = waysOfPair(desk.open(r, c), desk.open(r, c + 2));
            all = times(all, ways[0]);
            mined = times(mined, ways[pair == 0 ? 1 : 0]);
        }
        BigInteger lower = placements(all, 144 - PAIRS * 15, mines).multiply(BigInteger.valueOf(3));
        BigInteger upper = placements(mined, 144 - PAIRS * 15, mines);
        BigInteger divisor = lower.gcd(upper);
        BigInteger[] fraction = {upper.divide(divisor), lower.divide(divisor)};
        due("longer than two times 31 bits", true, fraction[1].bitLength() > 62);
        for (int part = 0; part < 2; part++) for (int i = 0; i < 8; i++) {
            int bits = fraction[part].shiftRight(31 * i).and(BigInteger.valueOf(HIGHEST)).intValue();
            due("part " + part + ", i " + i, bits, desk.share(1, 2, part, i));
        }
        due("of a thousand", upper.multiply(BigInteger.valueOf(1000)).divide(lower).intValue(), desk.permille(1, 2));
    }

    /** By the mines on the 13 cells: in how many ways they can be there; and these, each as often as it has shared ones. */
    private static BigInteger[][] waysOfPair(int n, int m) {
        BigInteger[][] ways = new BigInteger[2][14];
        for (BigInteger[] row : ways) Arrays.fill(row, BigInteger.ZERO);
        for (int j = 0; j <= 3 && j <= n && j <= m; j++) {
            BigInteger number = Desks.choose(3, j).multiply(Desks.choose(5, n - j)).multiply(Desks.choose(5, m - j));
            if (number.signum() == 0) continue;
            ways[0][n + m - j] = number;
            ways[1][n + m - j] = number.multiply(BigInteger.valueOf(j));
        }
        return ways;
    }

    private static BigInteger[] times(BigInteger[] a, BigInteger[] b) {
        BigInteger[] product = new BigInteger[a.length + b.length - 1];
        Arrays.fill(product, BigInteger.ZERO);
        for (int i = 0; i < a.length; i++) {
            for (int j = 0; j < b.length; j++) product[i + j] = product[i + j].add(a[i].multiply(b[j]));
        }
        return product;
    }

    private static BigInteger placements(BigInteger[] onBorder, int free, int mines) {
        BigInteger sum = BigInteger.ZERO;
        for (int t = 0; t < onBorder.length && t <= mines; t++) {
            sum = sum.add(onBorder[t].multiply(Desks.choose(free, mines - t)));
        }
        return sum;
    }

    private static void permille() {
        about(16, "The same, how many of a thousand, rounded down");
        due("0", 0, board(0, "---", "---", "---").permille(0, 0));
        due("1", 1000, board(0, "xxx", "xxx", "xxx").permille(0, 0));
        due("2 of 3", 666, board(0, "xxx", "xxx", "---").permille(0, 0));
        due("8 of 9", 888, board(0, "xxx", "xxx", "xx-").permille(0, 0));
        MineDesk most = new MineDesk();
        most.blank(12, 12, 0);
        due("none of 144", 0, most.permille(5, 5));
        most.edit(0, 0, true);
        due("1 of 144", 6, most.permille(5, 5));
        for (int cell = 1; cell < 72; cell++) most.edit(cell / 12, cell % 12, true);
        due("72 of 144", 500, most.permille(5, 5));
        for (int cell = 72; cell < 143; cell++) most.edit(cell / 12, cell % 12, true);
        due("143 of 144", 993, most.permille(5, 5));
        MineDesk rare = pairOf(1, true);
        due("1 of 3228", "1/3228", Desks.share(rare, 0, 2));
        due("1 of 3228", 0, rare.permille(0, 2));
        MineDesk often = pairOf(7, false);
        due("3227 of 3228", "3227/3228", Desks.share(often, 0, 2));
        due("3227 of 3228", 999, often.permille(0, 2));
        about(16, "UnsupportedOperationException as for share");
        MineDesk desk = board(0, "x--", "---", "---");
        desk.open(0, 1);
        desk.open(0, 0);
        dueThrow("open", UNSUPPORTED, () -> desk.permille(0, 1));
        dueThrow("hit", UNSUPPORTED, () -> desk.permille(0, 0));
        dueThrow("the border is too long", UNSUPPORTED, () -> corner(9, 9).permille(0, 0));
        due("16 cells", 1000, corner(8, 9).permille(0, 0));
    }

    /**
     * Two numbers that share three of their eight cells, both 1 or both 7, and 129 cells off the border: but for one
     * all of these are mined, or one alone is. A shared cell by which both numbers are right leaves that one cell no
     * choice, which is so in 3 of 3 + 25 * 129 placements.
     */
    private static MineDesk pairOf(int number, boolean crowded) {
        MineDesk desk = new MineDesk();
        desk.blank(12, 12, 0);
        for (int r = 0; r < 12; r++) for (int c = 0; c < 12; c++) {
            boolean opened = r == 1 && (c == 1 || c == 3), corner = r == 0 && (c == 0 || c == 4);
            boolean onBorder = r < 3 && c < 5, last = r == 11 && c == 11;
            if (!opened) desk.edit(r, c, onBorder ? corner == (number == 1) : last != crowded);
        }
        due("a pair of " + number, number + " " + number, desk.open(1, 1) + " " + desk.open(1, 3));
        return desk;
    }

    private static void count() {
        about(17, "Rows (0), columns (1), mines (2), open cells (3), flagged ones (4), lives (5), moves that can be taken"
            + " back (6), whether it is solved (7: 1, else 0)");
        MineDesk desk = board(0, "x---", "----", "---x");
        due("at first", "3 4 2 0 0 3 0 0 2", Desks.counts(desk));
        desk.open(0, 0);
        desk.flag(2, 3);
        desk.open(1, 1);
        due("a hit, a flag, an open one", "3 4 2 1 1 2 3 0 2", Desks.counts(desk));
        about(17, "IndexOutOfBoundsException, for another what");
        for (int what : new int[] {LOWEST, -1, 9, HIGHEST}) dueThrow("what " + what, BOUNDS, () -> desk.count(what));
    }

    private static void leastOpenings() {
        about(17, "the least number of cells that have to be opened until it is, when all is known (8)");
        due("no mines", 1, board(0, "---", "---", "---").count(8));
        due("all mines", 0, board(0, "xxx", "xxx", "xxx").count(8));
        due("each by itself", 8, board(0, "---", "-x-", "---").count(8));
        due("one round a mine", 1, board(0, "-----", "-----", "--x--", "-----", "-----").count(8));
        due("a wall of mines", 2, board(0, "---x---", "---x---", "---x---").count(8));
        due("a wall of mines in a ring", 1, board(1, "---x---", "---x---", "---x---").count(8));
        due("a gap in the wall, next to no zero", 3, board(0, "---x---", "-------", "---x---").count(8));
        due("numbers next to two fields of zeros, and one next to none", 3,
            board(2, "------", "------", "-x--x-", "------", "------").count(8));
        MineDesk desk = board(0, "---x---", "-------", "---x---");
        desk.open(0, 2);
        due("a number next to a zero is opened", 3, desk.count(8));
        desk.open(1, 3);
        due("the one in the gap is opened", 2, desk.count(8));
        desk.flag(0, 0);
        due("a flagged zero has to be opened all the same", 2, desk.count(8));
        desk.open(1, 0);
        due("one field is open", 1, desk.count(8));
        desk.flag(0, 4);
        due("a flagged number", 1, desk.count(8));
        desk.open(0, 3);
        desk.open(2, 3);
        due("hits change nothing", 1, desk.count(8));
        desk.open(1, 6);
        due("solved", "0 1", desk.count(8) + " " + desk.count(7));
        desk.undo();
        due("taken back", 1, desk.count(8));
        MineDesk apart = board(0, "---", "-x-", "---");
        apart.flag(0, 0);
        due("a flagged one by itself has to be opened all the same", 8, apart.count(8));
    }
}
