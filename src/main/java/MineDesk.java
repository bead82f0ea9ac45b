import java.util.Arrays;

/**
 * A desk for boards with hidden mines: it makes boards that open without a guess, referees the play,
 * and tells what is sure and how likely a mine is.
 *
 * <p>All rows are made once, with the object, and used again by every call: no call makes an object.
 */
public final class MineDesk {
    public static final int NONE = -1;

    private static final int LEAST_SIDE = 3;
    private static final int MOST_SIDE = 12;
    private static final int CELLS = MOST_SIDE * MOST_SIDE;
    private static final int MOST_CALLS = 512;
    private static final int LONGEST = 16;
    private static final int FIRST_LIVES = 3;

    private static final int SHOWN_CLOSED = 10;
    private static final int SHOWN_FLAGGED = 11;
    private static final int SHOWN_HIT = 12;
    private static final int OPENED_A_MINE = 9;
    private static final int SHARE_LIMBS = 8;
    private static final int THOUSAND = 1000;
    private static final int MODULUS = 1000000007;

    private final Field field;
    private final Border border;
    private final Oracle oracle;
    private final Advice advice;
    private final Odds odds;
    private final Maker maker;
    private boolean hasBoard;
    private boolean beganBlank;

    public MineDesk() {
        field = new Field();
        border = new Border(field);
        Survey survey = new Survey(border);
        oracle = new Oracle(border, survey);
        Reasoner reasoner = new Reasoner(field, oracle);
        advice = new Advice(reasoner, oracle);
        odds = new Odds(border, survey);
        maker = new Maker(field, reasoner);
    }

    public int make(int w, int h, int mines, int shape, int seed, int grade) throws IllegalArgumentException {
        if (!Grid.isPossible(w, h, shape) || mines < 1 || mines > Maker.freeCells(w, h, shape)
                || grade < 1 || grade > Reasoner.HIGHEST) {
            throw new IllegalArgumentException();
        }
        field.begin(w, h, shape);
        advice.forget();
        maker.scatter(mines, seed);
        beganBlank = false;
        hasBoard = maker.settle(grade);
        field.closeAll();
        return hasBoard ? 1 : 0;
    }

    public void blank(int w, int h, int shape) throws IllegalArgumentException {
        if (!Grid.isPossible(w, h, shape)) {
            throw new IllegalArgumentException();
        }
        field.begin(w, h, shape);
        advice.forget();
        beganBlank = true;
        hasBoard = true;
    }

    public int edit(int r, int c, boolean mine)
            throws IllegalStateException, IndexOutOfBoundsException, UnsupportedOperationException {
        int cell = cellAt(r, c);
        if (!beganBlank || field.moves > 0) {
            throw new UnsupportedOperationException();
        }
        field.setMine(cell, mine);
        return field.mines;
    }

    public int open(int r, int c)
            throws IllegalStateException, IndexOutOfBoundsException, UnsupportedOperationException {
        int cell = cellAt(r, c);
        if (!field.allowsMove() || field.state[cell] != Field.CLOSED) {
            throw new UnsupportedOperationException();
        }
        field.beginMove();
        field.uncover(cell);
        return field.mined[cell] ? OPENED_A_MINE : field.number[cell];
    }

    public boolean flag(int r, int c)
            throws IllegalStateException, IndexOutOfBoundsException, UnsupportedOperationException {
        int cell = cellAt(r, c);
        if (!field.allowsMove() || !field.isUnknown(cell)) {
            throw new UnsupportedOperationException();
        }
        boolean flagged = field.state[cell] == Field.CLOSED;
        field.beginMove();
        field.change(cell, flagged ? Field.FLAGGED : Field.CLOSED);
        return flagged;
    }

    public int chord(int r, int c)
            throws IllegalStateException, IndexOutOfBoundsException, UnsupportedOperationException {
        int cell = cellAt(r, c);
        if (!field.allowsMove() || !field.isReadyToChord(cell)) {
            throw new UnsupportedOperationException();
        }
        int before = field.unknownCells();
        field.beginMove();
        field.uncoverAround(cell);
        return before - field.unknownCells();
    }

    public int undo() throws IllegalStateException, UnsupportedOperationException {
        needBoard();
        if (field.moves == 0) {
            throw new UnsupportedOperationException();
        }
        field.takeBackMove();
        return field.moves;
    }

    public int shown(int r, int c) throws IllegalStateException, IndexOutOfBoundsException {
        int cell = cellAt(r, c);
        switch (field.state[cell]) {
            case Field.OPEN:
                return field.number[cell];
            case Field.FLAGGED:
                return SHOWN_FLAGGED;
            case Field.HIT:
                return SHOWN_HIT;
            default:
                return SHOWN_CLOSED;
        }
    }

    public int hint() throws IllegalStateException {
        needBoard();
        advice.seek();
        if (advice.grade == 0) {
            return 0;
        }
        advice.explain();
        return 1 + 2 * advice.cell + (advice.mined ? 1 : 0);
    }

    public int reason(int what) throws IllegalStateException, IndexOutOfBoundsException {
        needBoard();
        switch (what) {
            case 0:
                return advice.grade;
            case 1:
                return advice.numbers;
            case 2:
                return advice.withTotal ? 1 : 0;
            default:
                throw new IndexOutOfBoundsException();
        }
    }

    public int reasonCell(int k) throws IllegalStateException, IndexOutOfBoundsException {
        needBoard();
        if (k < 0 || k >= advice.numbers) {
            throw new IndexOutOfBoundsException();
        }
        return advice.number[k];
    }

    public boolean follows(int r, int c, boolean mined)
            throws IllegalStateException, IndexOutOfBoundsException, UnsupportedOperationException {
        int cell = cellAt(r, c);
        if (!field.isUnknown(cell)) {
            throw new UnsupportedOperationException();
        }
        advice.chooseNumbers();
        border.split();
        if (border.isTooLong()) {
            throw new UnsupportedOperationException();
        }
        return oracle.isSure(cell, mined, advice.withTotal);
    }

    public int ways() throws IllegalStateException {
        needBoard();
        if (isBorderTooLong()) {
            return NONE;
        }
        odds.weigh(NONE);
        return (int) Wide.remainder(odds.all, MODULUS);
    }

    public int share(int r, int c, int part, int i)
            throws IllegalStateException, IndexOutOfBoundsException, UnsupportedOperationException {
        int cell = cellAt(r, c);
        if (part < 0 || part > 1 || i < 0 || i >= SHARE_LIMBS) {
            throw new IndexOutOfBoundsException();
        }
        weighUnknown(cell);
        if (i >= Wide.LIMBS) {
            return 0;
        }
        odds.reduce();
        return (int) (part == 0 ? odds.mined[i] : odds.all[i]);
    }

    public int permille(int r, int c)
            throws IllegalStateException, IndexOutOfBoundsException, UnsupportedOperationException {
        weighUnknown(cellAt(r, c));
        return odds.ofThousand();
    }

    public int count(int what) throws IllegalStateException, IndexOutOfBoundsException {
        needBoard();
        switch (what) {
            case 0:
                return field.grid.height;
            case 1:
                return field.grid.width;
            case 2:
                return field.mines;
            case 3:
                return field.cellsIn[Field.OPEN];
            case 4:
                return field.cellsIn[Field.FLAGGED];
            case 5:
                return field.lives();
            case 6:
                return field.moves;
            case 7:
                return field.isSolved() ? 1 : 0;
            case 8:
                return field.leastOpenings();
            default:
                throw new IndexOutOfBoundsException();
        }
    }

    private void needBoard() {
        if (!hasBoard) {
            throw new IllegalStateException();
        }
    }

    private int cellAt(int r, int c) {
        needBoard();
        if (!field.grid.has(r, c)) {
            throw new IndexOutOfBoundsException();
        }
        return field.grid.cell(r, c);
    }

    private boolean isBorderTooLong() {
        border.chooseAll();
        border.split();
        return border.isTooLong();
    }

    private void weighUnknown(int cell) {
        if (!field.isUnknown(cell) || isBorderTooLong()) {
            throw new UnsupportedOperationException();
        }
        odds.weigh(cell);
        if (Wide.isZero(odds.all)) {
            throw new UnsupportedOperationException();
        }
    }

    /** The sizes and the shape of a board: which cells are next to which. */
    private static final class Grid {
        static final int MOST_NEAR = 8;
        private static final int RING = 1;
        private static final int COMB = 2;
        private static final int COMB_RING = 3;

        int width;
        int height;
        int size;
        // The neighbours of a cell stand in reading order, from cell * MOST_NEAR to nearEnd[cell].
        final int[] near = new int[CELLS * MOST_NEAR];
        final int[] nearEnd = new int[CELLS];

        static boolean isPossible(int w, int h, int shape) {
            return w >= LEAST_SIDE && w <= MOST_SIDE && h >= LEAST_SIDE && h <= MOST_SIDE
                && shape >= 0 && shape <= COMB_RING
                && (shape != COMB_RING || h % 2 == 0);
        }

        static boolean isComb(int shape) {
            return shape >= COMB;
        }

        void lay(int w, int h, int shape) {
            width = w;
            height = h;
            size = w * h;
            boolean ring = shape == RING || shape == COMB_RING;
            for (int r = 0; r < h; r++) {
                for (int c = 0; c < w; c++) {
                    link(r, c, isComb(shape), ring);
                }
            }
        }

        boolean has(int r, int c) {
            return r >= 0 && r < height && c >= 0 && c < width;
        }

        int cell(int r, int c) {
            return r * width + c;
        }

        boolean areNear(int a, int b) {
            for (int i = a * MOST_NEAR; i < nearEnd[a]; i++) {
                if (near[i] == b) {
                    return true;
                }
            }
            return false;
        }

        private void link(int r, int c, boolean comb, boolean ring) {
            int cell = cell(r, c);
            nearEnd[cell] = cell * MOST_NEAR;
            for (int dr = -1; dr <= 1; dr++) {
                for (int dc = -1; dc <= 1; dc++) {
                    if (!reaches(r, dr, dc, comb)) {
                        continue;
                    }
                    if (ring) {
                        addNear(cell, cell(wrap(r + dr, height), wrap(c + dc, width)));
                    } else if (has(r + dr, c + dc)) {
                        addNear(cell, cell(r + dr, c + dc));
                    }
                }
            }
        }

        private static boolean reaches(int r, int dr, int dc, boolean comb) {
            if (dr == 0 && dc == 0) {
                return false;
            }
            return !comb || dr == 0 || dc == 0 || dc == (r % 2 == 0 ? -1 : 1);
        }

        private static int wrap(int place, int side) {
            if (place < 0) {
                return place + side;
            }
            return place >= side ? place - side : place;
        }

        private void addNear(int cell, int other) {
            int at = nearEnd[cell];
            for (; at > cell * MOST_NEAR && near[at - 1] > other; at--) {
                near[at] = near[at - 1];
            }
            near[at] = other;
            nearEnd[cell]++;
        }
    }

    /** The mines and what the player has done: the state of each cell, and the moves that can be taken back. */
    private static final class Field {
        static final int CLOSED = 0;
        static final int FLAGGED = 1;
        static final int OPEN = 2;
        static final int HIT = 3;
        private static final int STATES = 4;
        // Without a move taken back a cell is opened once at most; all other changes are flags, one a move.
        private static final int MOST_CHANGES = CELLS + MOST_CALLS;

        final Grid grid = new Grid();
        final boolean[] mined = new boolean[CELLS];
        final int[] number = new int[CELLS];
        final int[] state = new int[CELLS];
        final int[] cellsIn = new int[STATES];
        final int[] unknownNear = new int[CELLS];
        final int[] hitNear = new int[CELLS];
        int mines;
        int moves;
        private final int[] moveStart = new int[MOST_CALLS];
        private final int[] changed = new int[MOST_CHANGES];
        private int changes;
        private final int[] waiting = new int[CELLS];
        private final boolean[] seen = new boolean[CELLS];

        void begin(int w, int h, int shape) {
            grid.lay(w, h, shape);
            for (int cell = 0; cell < CELLS; cell++) {
                mined[cell] = false;
                number[cell] = 0;
            }
            mines = 0;
            closeAll();
        }

        void closeAll() {
            for (int cell = 0; cell < grid.size; cell++) {
                state[cell] = CLOSED;
                unknownNear[cell] = grid.nearEnd[cell] - cell * Grid.MOST_NEAR;
                hitNear[cell] = 0;
            }
            Arrays.fill(cellsIn, 0);
            cellsIn[CLOSED] = grid.size;
            moves = 0;
            changes = 0;
        }

        void setMine(int cell, boolean mine) {
            if (mined[cell] == mine) {
                return;
            }
            int more = mine ? 1 : -1;
            mined[cell] = mine;
            mines += more;
            for (int i = cell * Grid.MOST_NEAR; i < grid.nearEnd[cell]; i++) {
                number[grid.near[i]] += more;
            }
        }

        boolean isUnknown(int cell) {
            return state[cell] <= FLAGGED;
        }

        int unknownCells() {
            return cellsIn[CLOSED] + cellsIn[FLAGGED];
        }

        int minesLeft() {
            return mines - cellsIn[HIT];
        }

        int lives() {
            return FIRST_LIVES - cellsIn[HIT];
        }

        boolean isSolved() {
            return cellsIn[OPEN] == grid.size - mines;
        }

        boolean allowsMove() {
            return lives() > 0 && moves < MOST_CALLS;
        }

        boolean isReadyToChord(int cell) {
            if (state[cell] != OPEN) {
                return false;
            }
            int flagged = 0;
            for (int i = cell * Grid.MOST_NEAR; i < grid.nearEnd[cell]; i++) {
                if (state[grid.near[i]] == FLAGGED) {
                    flagged++;
                }
            }
            return flagged < unknownNear[cell] && flagged + hitNear[cell] == number[cell];
        }

        void beginMove() {
            if (moves < MOST_CALLS) {
                moveStart[moves] = changes;
                moves++;
            }
        }

        void takeBackMove() {
            if (moves <= 0) {
                return;
            }
            moves--;
            for (int i = changes - 1; i >= moveStart[moves]; i--) {
                put(changed[i] / STATES, changed[i] % STATES);
            }
            changes = moveStart[moves];
        }

        void change(int cell, int next) {
            if (changes < MOST_CHANGES) {
                changed[changes] = cell * STATES + state[cell];
                changes++;
                put(cell, next);
            }
        }

        void uncover(int cell) {
            if (mined[cell]) {
                change(cell, HIT);
                return;
            }
            change(cell, OPEN);
            waiting[0] = cell;
            int end = 1;
            for (int i = 0; i < end && i < CELLS; i++) {
                if (number[waiting[i]] == 0) {
                    end = uncoverSafeAround(waiting[i], end);
                }
            }
        }

        void uncoverAround(int cell) {
            for (int i = cell * Grid.MOST_NEAR; i < grid.nearEnd[cell]; i++) {
                if (state[grid.near[i]] == CLOSED) {
                    uncover(grid.near[i]);
                }
            }
        }

        /** A field of zeros opens as a whole, with its rim: one opening for each, and one for each cell apart. */
        int leastOpenings() {
            for (int cell = 0; cell < grid.size; cell++) {
                seen[cell] = false;
            }
            int openings = 0;
            for (int cell = 0; cell < grid.size; cell++) {
                if (number[cell] == 0 && hasToOpen(cell)) {
                    openings++;
                    passZeros(cell);
                }
            }
            for (int cell = 0; cell < grid.size; cell++) {
                if (hasToOpen(cell)) {
                    openings++;
                }
            }
            return openings;
        }

        private boolean hasToOpen(int cell) {
            return !seen[cell] && !mined[cell] && isUnknown(cell);
        }

        private void passZeros(int first) {
            seen[first] = true;
            waiting[0] = first;
            int end = 1;
            for (int i = 0; i < end && i < CELLS; i++) {
                if (number[waiting[i]] == 0) {
                    end = passAround(waiting[i], end);
                }
            }
        }

        private int passAround(int cell, int end) {
            int last = end;
            for (int i = cell * Grid.MOST_NEAR; i < grid.nearEnd[cell]; i++) {
                int other = grid.near[i];
                if (hasToOpen(other) && last < CELLS) {
                    seen[other] = true;
                    waiting[last] = other;
                    last++;
                }
            }
            return last;
        }

        private int uncoverSafeAround(int cell, int end) {
            int last = end;
            for (int i = cell * Grid.MOST_NEAR; i < grid.nearEnd[cell]; i++) {
                int other = grid.near[i];
                if (isUnknown(other) && !mined[other] && last < CELLS) {
                    change(other, OPEN);
                    waiting[last] = other;
                    last++;
                }
            }
            return last;
        }

        private void put(int cell, int next) {
            int before = state[cell];
            cellsIn[before]--;
            cellsIn[next]++;
            state[cell] = next;
            int unknown = (next <= FLAGGED ? 1 : 0) - (before <= FLAGGED ? 1 : 0);
            int hit = (next == HIT ? 1 : 0) - (before == HIT ? 1 : 0);
            if (unknown == 0 && hit == 0) {
                return;
            }
            for (int i = cell * Grid.MOST_NEAR; i < grid.nearEnd[cell]; i++) {
                unknownNear[grid.near[i]] += unknown;
                hitNear[grid.near[i]] += hit;
            }
        }
    }

    /** The shown numbers that are chosen, and the parts into which their unknowns fall. */
    private static final class Border {
        final Field field;
        final Grid grid;
        final boolean[] chosen = new boolean[CELLS];
        // For a chosen number and for each of its unknowns alike; NONE for all other cells.
        final int[] partOf = new int[CELLS];
        final int[] rest = new int[CELLS];
        final int[] unknowns = new int[CELLS];
        // The cells of a part stand from partStart[part] to partStart[part + 1].
        final int[] partStart = new int[CELLS + 1];
        final int[] cells = new int[CELLS];
        int parts;
        private int longest;

        Border(Field field) {
            this.field = field;
            this.grid = field.grid;
        }

        boolean canChoose(int cell) {
            return field.state[cell] == Field.OPEN && field.unknownNear[cell] > 0;
        }

        void chooseAll() {
            for (int cell = 0; cell < grid.size; cell++) {
                chosen[cell] = canChoose(cell);
            }
        }

        void chooseNone() {
            for (int cell = 0; cell < CELLS; cell++) {
                chosen[cell] = false;
            }
        }

        void keepPart(int part) {
            for (int cell = 0; cell < grid.size; cell++) {
                chosen[cell] = chosen[cell] && partOf[cell] == part;
            }
        }

        void split() {
            Arrays.fill(partOf, NONE);
            parts = 0;
            longest = 0;
            for (int number = 0; number < grid.size; number++) {
                if (chosen[number] && partOf[number] == NONE && parts < CELLS) {
                    gather(number);
                }
            }
        }

        boolean isTooLong() {
            return longest > LONGEST;
        }

        int sizeOf(int part) {
            return partStart[part + 1] - partStart[part];
        }

        int freeCells() {
            return field.unknownCells() - partStart[parts];
        }

        private void gather(int number) {
            int start = partStart[parts];
            int end = admit(number, start);
            for (int i = start; i < end && i < CELLS; i++) {
                for (int j = cells[i] * Grid.MOST_NEAR; j < grid.nearEnd[cells[i]]; j++) {
                    int other = grid.near[j];
                    if (chosen[other] && partOf[other] == NONE) {
                        end = admit(other, end);
                    }
                }
            }
            parts++;
            partStart[parts] = end;
            longest = Math.max(longest, end - start);
        }

        private int admit(int number, int end) {
            partOf[number] = parts;
            rest[number] = field.number[number] - field.hitNear[number];
            unknowns[number] = field.unknownNear[number];
            int last = end;
            for (int i = number * Grid.MOST_NEAR; i < grid.nearEnd[number]; i++) {
                int cell = grid.near[i];
                if (field.isUnknown(cell) && partOf[cell] == NONE && last < CELLS) {
                    partOf[cell] = parts;
                    cells[last] = cell;
                    last++;
                }
            }
            return last;
        }
    }

    /**
     * All ways to put mines on one part. Cells next to the same numbers are alike: they are taken as a group,
     * of which only the number of mines matters.
     */
    private static final class Survey {
        // Row s, place k: in how many ways k of s cells have the mines. All cells of a group are next to
        // one number, so there are eight at most.
        private static final int[] CHOICES = {
            1, 0, 0, 0, 0, 0, 0, 0, 0,
            1, 1, 0, 0, 0, 0, 0, 0, 0,
            1, 2, 1, 0, 0, 0, 0, 0, 0,
            1, 3, 3, 1, 0, 0, 0, 0, 0,
            1, 4, 6, 4, 1, 0, 0, 0, 0,
            1, 5, 10, 10, 5, 1, 0, 0, 0,
            1, 6, 15, 20, 15, 6, 1, 0, 0,
            1, 7, 21, 35, 35, 21, 7, 1, 0,
            1, 8, 28, 56, 70, 56, 28, 8, 1,
        };
        private static final int CHOICES_ROW = 9;

        // A set of mine numbers has bit m, if m mines on the part can be: of a cell with a mine there, without
        // one, and of the part.
        final int[] minedSet = new int[CELLS];
        final int[] safeSet = new int[CELLS];
        final int[] partSet = new int[CELLS];
        // In how many ways a part has m mines: at tallyStart(part) + m.
        final int[] tally = new int[2 * CELLS];
        // The same of the part that was taken last, with a mine at the cell that was asked for.
        final int[] askedTally = new int[LONGEST + 1];

        private final Border border;
        private final Grid grid;
        private final int[] groupOf = new int[CELLS];
        private final int[] groupSize = new int[LONGEST + 1];
        private final int[] links = new int[(LONGEST + 1) * Grid.MOST_NEAR];
        private final int[] linkEnd = new int[LONGEST + 1];
        private final int[] pick = new int[LONGEST];
        private final int[] groupMinedSet = new int[LONGEST];
        private final int[] groupSafeSet = new int[LONGEST];
        private int groups;
        private int askedGroup;
        private int taken;

        Survey(Border border) {
            this.border = border;
            this.grid = border.grid;
        }

        int tallyStart(int part) {
            return border.partStart[part] + part;
        }

        void take(int part, int asked) {
            if (border.sizeOf(part) > LONGEST) {
                return;
            }
            taken = part;
            formGroups();
            askedGroup = asked == NONE ? NONE : groupOf[asked];
            clear();
            place(0, 0, 1);
            for (int i = border.partStart[part]; i < border.partStart[part + 1]; i++) {
                int cell = border.cells[i];
                minedSet[cell] = groupMinedSet[groupOf[cell]];
                safeSet[cell] = groupSafeSet[groupOf[cell]];
            }
        }

        private void clear() {
            for (int mines = 0; mines <= border.sizeOf(taken); mines++) {
                tally[tallyStart(taken) + mines] = 0;
            }
            Arrays.fill(askedTally, 0);
            Arrays.fill(groupMinedSet, 0);
            Arrays.fill(groupSafeSet, 0);
            partSet[taken] = 0;
        }

        private void formGroups() {
            groups = 0;
            for (int i = border.partStart[taken]; i < border.partStart[taken + 1]; i++) {
                int cell = border.cells[i];
                listLinks(cell);
                int group = groupLikeTheLast();
                if (group == groups) {
                    groupSize[group] = 0;
                    groups++;
                }
                groupSize[group]++;
                groupOf[cell] = group;
            }
        }

        /** Lists the numbers next to a cell as those of one group more, which may turn out to be there already. */
        private void listLinks(int cell) {
            int end = groups * Grid.MOST_NEAR;
            for (int i = cell * Grid.MOST_NEAR; i < grid.nearEnd[cell]; i++) {
                if (border.chosen[grid.near[i]]) {
                    links[end] = grid.near[i];
                    end++;
                }
            }
            linkEnd[groups] = end;
        }

        private int groupLikeTheLast() {
            int length = linkEnd[groups] - groups * Grid.MOST_NEAR;
            for (int group = 0; group < groups; group++) {
                if (linkEnd[group] - group * Grid.MOST_NEAR == length && hasLinksOfTheLast(group, length)) {
                    return group;
                }
            }
            return groups;
        }

        private boolean hasLinksOfTheLast(int group, int length) {
            for (int i = 0; i < length; i++) {
                if (links[group * Grid.MOST_NEAR + i] != links[groups * Grid.MOST_NEAR + i]) {
                    return false;
                }
            }
            return true;
        }

        /** Goes through the groups from this one on; a part has no more groups than cells, so 16 levels at most. */
        private void place(int group, int mines, int waysSoFar) {
            if (group >= groups || group >= LONGEST) {
                record(mines, waysSoFar);
                return;
            }
            int size = groupSize[group];
            int least = 0;
            int most = size;
            for (int i = group * Grid.MOST_NEAR; i < linkEnd[group]; i++) {
                int rest = border.rest[links[i]];
                most = Math.min(most, rest);
                least = Math.max(least, rest - border.unknowns[links[i]] + size);
            }
            if (least > most) {
                return;
            }
            assign(group, size, least);
            for (int k = least; k <= most; k++) {
                pick[group] = k;
                place(group + 1, mines + k, waysSoFar * CHOICES[size * CHOICES_ROW + k]);
                assign(group, 0, 1);
            }
            assign(group, -size, -most - 1);
        }

        private void assign(int group, int cells, int mines) {
            for (int i = group * Grid.MOST_NEAR; i < linkEnd[group]; i++) {
                border.unknowns[links[i]] -= cells;
                border.rest[links[i]] -= mines;
            }
        }

        private void record(int mines, int number) {
            int bit = 1 << mines;
            tally[tallyStart(taken) + mines] += number;
            partSet[taken] |= bit;
            for (int group = 0; group < groups; group++) {
                if (pick[group] > 0) {
                    groupMinedSet[group] |= bit;
                }
                if (pick[group] < groupSize[group]) {
                    groupSafeSet[group] |= bit;
                }
            }
            if (askedGroup != NONE && groupSize[askedGroup] > 0) {
                askedTally[mines] += number * pick[askedGroup] / groupSize[askedGroup];
            }
        }
    }

    /** What is so in all ways to put mines, from the chosen numbers alone or from them and the total. */
    private static final class Oracle {
        private static final int WORD_BITS = 64;
        private static final int WORDS = CELLS / WORD_BITS + 1;

        final Border border;
        private final Survey survey;
        private final Field field;
        // Bit t: together t mines can be on the cells looked at.
        private final long[] sums = new long[WORDS];
        private final long[] nextSums = new long[WORDS];

        Oracle(Border border, Survey survey) {
            this.border = border;
            this.survey = survey;
            this.field = border.field;
        }

        /** Whether a verdict follows from the chosen numbers; they are split, and no part is too long. */
        boolean isSure(int cell, boolean mined, boolean withTotal) {
            int part = border.partOf[cell];
            if (part != NONE) {
                survey.take(part, NONE);
                int against = mined ? survey.safeSet[cell] : survey.minedSet[cell];
                if (against == 0 || !withTotal) {
                    return against == 0;
                }
                takeAllBut(part);
                return (against & fittingSet(part)) == 0;
            }
            if (!withTotal) {
                return false;
            }
            takeAllBut(NONE);
            sumUp(NONE, border.freeCells() - 1);
            return !hasSum(mined ? field.minesLeft() : field.minesLeft() - 1);
        }

        /** Marks all unknown cells of which something is so in all placements, unless the border is too long. */
        void judge(int[] found) {
            border.chooseAll();
            border.split();
            if (border.isTooLong()) {
                return;
            }
            for (int part = 0; part < border.parts; part++) {
                survey.take(part, NONE);
            }
            for (int part = 0; part < border.parts; part++) {
                int fitting = fittingSet(part);
                for (int i = border.partStart[part]; i < border.partStart[part + 1]; i++) {
                    int cell = border.cells[i];
                    found[cell] = verdict((survey.minedSet[cell] & fitting) != 0, (survey.safeSet[cell] & fitting) != 0);
                }
            }
            judgeFreeCells(found);
        }

        private void judgeFreeCells(int[] found) {
            if (border.freeCells() <= 0) {
                return;
            }
            sumUp(NONE, border.freeCells() - 1);
            int verdict = verdict(hasSum(field.minesLeft() - 1), hasSum(field.minesLeft()));
            for (int cell = 0; cell < field.grid.size; cell++) {
                if (field.isUnknown(cell) && border.partOf[cell] == NONE) {
                    found[cell] = verdict;
                }
            }
        }

        private static int verdict(boolean canBeMined, boolean canBeSafe) {
            if (!canBeMined) {
                return Reasoner.SAFE;
            }
            return canBeSafe ? Reasoner.OPEN_END : Reasoner.MINED;
        }

        private void takeAllBut(int taken) {
            for (int part = 0; part < border.parts; part++) {
                if (part != taken) {
                    survey.take(part, NONE);
                }
            }
        }

        /** How many mines a part can have, so that the mines left come out with all other cells. */
        private int fittingSet(int part) {
            sumUp(part, border.freeCells());
            int set = 0;
            for (int mines = 0; mines <= LONGEST; mines++) {
                if (hasSum(field.minesLeft() - mines)) {
                    set |= 1 << mines;
                }
            }
            return set;
        }

        private void sumUp(int skippedPart, int freeCells) {
            for (int i = 0; i < WORDS; i++) {
                int bits = freeCells + 1 - i * WORD_BITS;
                sums[i] = bits >= WORD_BITS ? -1L : bits > 0 ? (1L << bits) - 1 : 0;
            }
            for (int part = 0; part < border.parts; part++) {
                // A part without mines changes no sum.
                if (part != skippedPart && survey.partSet[part] != 1) {
                    addSet(survey.partSet[part]);
                }
            }
        }

        private void addSet(int set) {
            Arrays.fill(nextSums, 0L);
            for (int mines = 0; mines <= LONGEST; mines++) {
                if ((set >> mines & 1) == 0) {
                    continue;
                }
                for (int i = 0; i < WORDS; i++) {
                    nextSums[i] |= sums[i] << mines;
                    if (i > 0 && mines > 0) {
                        nextSums[i] |= sums[i - 1] >>> WORD_BITS - mines;
                    }
                }
            }
            System.arraycopy(nextSums, 0, sums, 0, WORDS);
        }

        private boolean hasSum(int total) {
            return total >= 0 && total <= CELLS && (sums[total / WORD_BITS] >>> total % WORD_BITS & 1) != 0;
        }
    }

    /** The reasoner: what each grade finds, asked for from grade 1 upwards. */
    private static final class Reasoner {
        static final int HIGHEST = 3;
        static final int OPEN_END = 0;
        static final int SAFE = 1;
        static final int MINED = 2;
        private static final int KNOWN = 3;
        // Each number waits once at first, and once more for each of its cells that is found.
        private static final int MOST_TURNS = CELLS * (Grid.MOST_NEAR + 1);

        final int[] found = new int[CELLS];
        final Field field;
        private final Grid grid;
        private final Oracle oracle;
        private final int[] openEnds = new int[CELLS];
        private final int[] need = new int[CELLS];
        private final int[] waiting = new int[CELLS];
        private final boolean[] waits = new boolean[CELLS];
        private int waitingCount;
        private final int[] common = new int[CELLS];
        private final int[] met = new int[CELLS];
        private int metCount;

        Reasoner(Field field, Oracle oracle) {
            this.field = field;
            this.grid = field.grid;
            this.oracle = oracle;
        }

        /** Adds what this grade finds to what the one below it found on the same board. */
        void raise(int grade) {
            if (grade == 1) {
                begin();
                findBySingles();
            } else if (grade == 2) {
                findByPairs();
            } else {
                oracle.judge(found);
            }
        }

        private void begin() {
            waitingCount = 0;
            for (int cell = 0; cell < grid.size; cell++) {
                found[cell] = field.isUnknown(cell) ? OPEN_END : KNOWN;
                common[cell] = 0;
                openEnds[cell] = field.unknownNear[cell];
                need[cell] = field.number[cell] - field.hitNear[cell];
                waits[cell] = isTelling(cell);
                if (waits[cell]) {
                    waiting[waitingCount] = cell;
                    waitingCount++;
                }
            }
        }

        private boolean isTelling(int cell) {
            return field.state[cell] == Field.OPEN && openEnds[cell] > 0;
        }

        private void findBySingles() {
            for (int turn = 0; turn < MOST_TURNS && waitingCount > 0; turn++) {
                waitingCount--;
                int number = waiting[waitingCount];
                waits[number] = false;
                if (need[number] == 0) {
                    markEnds(number, NONE, SAFE);
                } else if (need[number] == openEnds[number]) {
                    markEnds(number, NONE, MINED);
                }
            }
        }

        private void findByPairs() {
            boolean again = true;
            for (int turn = 0; turn <= CELLS && again; turn++) {
                again = false;
                for (int number = 0; number < grid.size; number++) {
                    if (isTelling(number) && findBeyond(number)) {
                        again = true;
                        findBySingles();
                    }
                }
            }
        }

        /** Looks for another number with all open ends of this one, by which something is found. */
        private boolean findBeyond(int number) {
            countCommonEnds(number);
            boolean finds = false;
            for (int i = 0; i < metCount; i++) {
                int other = met[i];
                int others = openEnds[other] - openEnds[number];
                if (!finds && others > 0 && common[other] == openEnds[number]) {
                    finds = compare(number, other, others);
                }
                common[other] = 0;
            }
            return finds;
        }

        private boolean compare(int number, int other, int others) {
            int more = need[other] - need[number];
            if (more != 0 && more != others) {
                return false;
            }
            markEnds(other, number, more == 0 ? SAFE : MINED);
            return true;
        }

        private void countCommonEnds(int number) {
            metCount = 0;
            for (int i = number * Grid.MOST_NEAR; i < grid.nearEnd[number]; i++) {
                if (found[grid.near[i]] == OPEN_END) {
                    meetNumbersAround(grid.near[i], number);
                }
            }
        }

        private void meetNumbersAround(int cell, int number) {
            for (int i = cell * Grid.MOST_NEAR; i < grid.nearEnd[cell]; i++) {
                int other = grid.near[i];
                if (other == number || field.state[other] != Field.OPEN) {
                    continue;
                }
                if (common[other] == 0 && metCount < CELLS) {
                    met[metCount] = other;
                    metCount++;
                }
                common[other]++;
            }
        }

        /** Marks the open ends of a number, but for those that are next to the spared one. */
        private void markEnds(int number, int spared, int verdict) {
            for (int i = number * Grid.MOST_NEAR; i < grid.nearEnd[number]; i++) {
                int cell = grid.near[i];
                if (found[cell] == OPEN_END && (spared == NONE || !grid.areNear(spared, cell))) {
                    mark(cell, verdict);
                }
            }
        }

        private void mark(int cell, int verdict) {
            found[cell] = verdict;
            for (int i = cell * Grid.MOST_NEAR; i < grid.nearEnd[cell]; i++) {
                int number = grid.near[i];
                openEnds[number]--;
                if (verdict == MINED) {
                    need[number]--;
                }
                if (field.state[number] == Field.OPEN && !waits[number] && waitingCount < CELLS) {
                    waits[number] = true;
                    waiting[waitingCount] = number;
                    waitingCount++;
                }
            }
        }
    }

    /** The latest hint and its reason. */
    private static final class Advice {
        int grade;
        int cell;
        boolean mined;
        boolean withTotal;
        final int[] number = new int[CELLS];
        int numbers;

        private final Reasoner reasoner;
        private final Oracle oracle;
        private final Field field;
        private final Border border;

        Advice(Reasoner reasoner, Oracle oracle) {
            this.reasoner = reasoner;
            this.oracle = oracle;
            this.field = reasoner.field;
            this.border = oracle.border;
        }

        void forget() {
            grade = 0;
            cell = NONE;
            mined = false;
            withTotal = false;
            numbers = 0;
        }

        void seek() {
            forget();
            for (int g = 1; g <= Reasoner.HIGHEST && cell == NONE; g++) {
                reasoner.raise(g);
                cell = firstToTell();
                grade = cell == NONE ? 0 : g;
            }
            mined = cell != NONE && reasoner.found[cell] == Reasoner.MINED;
        }

        /** Finds the reason of the hint: what it is at first, and then what can be left out. */
        void explain() {
            border.chooseAll();
            border.split();
            boolean shortEnough = !border.isTooLong();
            withTotal = shortEnough && !oracle.isSure(cell, mined, false);
            if (!withTotal) {
                border.keepPart(border.partOf[cell]);
            }
            for (int c = field.grid.size - 1; c >= 0 && shortEnough; c--) {
                if (border.chosen[c]) {
                    border.chosen[c] = false;
                    border.split();
                    border.chosen[c] = !oracle.isSure(cell, mined, withTotal);
                }
            }
            keepChosen();
        }

        /** Chooses on the border the numbers of the reason that still tell something. */
        void chooseNumbers() {
            border.chooseNone();
            for (int k = 0; k < numbers; k++) {
                border.chosen[number[k]] = border.canChoose(number[k]);
            }
        }

        private int firstToTell() {
            for (int c = 0; c < field.grid.size; c++) {
                int found = reasoner.found[c];
                if (found == Reasoner.SAFE || found == Reasoner.MINED && field.state[c] != Field.FLAGGED) {
                    return c;
                }
            }
            return NONE;
        }

        private void keepChosen() {
            for (int c = 0; c < field.grid.size; c++) {
                if (border.chosen[c]) {
                    number[numbers] = c;
                    numbers++;
                }
            }
        }
    }

    /** Makes boards: puts the mines, plays, and shifts a mine as long as the play gets stuck. */
    private static final class Maker {
        private static final int MOST_SHIFTS = 100;
        private static final int LOW_31_BITS = 0x7fffffff;
        private static final int FACTOR = 1103515245;
        private static final int ADDEND = 12345;
        private static final int DROPPED = 65536;
        // In one play each three grades open a cell at least, but for the last ones, which find none.
        private static final int MOST_TURNS = (MOST_SHIFTS + 1) * Reasoner.HIGHEST * (CELLS + 1);

        private final Field field;
        private final Grid grid;
        private final Reasoner reasoner;

        Maker(Field field, Reasoner reasoner) {
            this.field = field;
            this.grid = field.grid;
            this.reasoner = reasoner;
        }

        /** The first cell is never at an edge, so it has all neighbours that its shape gives a cell. */
        static int freeCells(int w, int h, int shape) {
            return w * h - (Grid.isComb(shape) ? 7 : 9);
        }

        void scatter(int mines, int seed) {
            int free = 0;
            for (int cell = 0; cell < grid.size; cell++) {
                if (isFree(cell)) {
                    free++;
                }
            }
            int x = seed & LOW_31_BITS;
            for (int left = Math.min(mines, free); left > 0 && free > 0; left--) {
                x = FACTOR * x + ADDEND & LOW_31_BITS;
                putOnFree(x / DROPPED % free);
                free--;
            }
        }

        /** Whether the board, perhaps with shifted mines, opens without a guess; the last play is left as it is. */
        boolean settle(int highestGrade) {
            playAnew();
            int shifts = 0;
            int grade = 1;
            for (int turn = 0; turn < MOST_TURNS && !field.isSolved(); turn++) {
                if (grade <= highestGrade) {
                    reasoner.raise(grade);
                    grade = uncoverSafe() ? 1 : grade + 1;
                    continue;
                }
                if (shifts >= MOST_SHIFTS || !shiftMine()) {
                    return false;
                }
                shifts++;
                playAnew();
                grade = 1;
            }
            return field.isSolved();
        }

        private int firstCell() {
            return grid.cell(grid.height / 2, grid.width / 2);
        }

        private boolean isFree(int cell) {
            return !field.mined[cell] && cell != firstCell() && !grid.areNear(firstCell(), cell);
        }

        private void putOnFree(int place) {
            int passed = 0;
            for (int cell = 0; cell < grid.size; cell++) {
                if (!isFree(cell)) {
                    continue;
                }
                if (passed == place) {
                    field.setMine(cell, true);
                    return;
                }
                passed++;
            }
        }

        private void playAnew() {
            field.closeAll();
            field.uncover(firstCell());
        }

        private boolean uncoverSafe() {
            boolean any = false;
            for (int cell = 0; cell < grid.size; cell++) {
                if (reasoner.found[cell] == Reasoner.SAFE && field.isUnknown(cell)) {
                    field.uncover(cell);
                    any = true;
                }
            }
            return any;
        }

        private boolean shiftMine() {
            int from = firstUnknown(true, true);
            int to = firstUnknown(false, false);
            if (from == NONE || to == NONE) {
                return false;
            }
            field.setMine(from, false);
            field.setMine(to, true);
            return true;
        }

        private int firstUnknown(boolean mined, boolean nextToNumber) {
            for (int cell = 0; cell < grid.size; cell++) {
                if (field.isUnknown(cell) && field.mined[cell] == mined && isNextToNumber(cell) == nextToNumber) {
                    return cell;
                }
            }
            return NONE;
        }

        private boolean isNextToNumber(int cell) {
            for (int i = cell * Grid.MOST_NEAR; i < grid.nearEnd[cell]; i++) {
                if (field.state[grid.near[i]] == Field.OPEN) {
                    return true;
                }
            }
            return false;
        }
    }

    /** How many placements there are, and with a mine at a cell: all is counted exactly. */
    private static final class Odds {
        // The fraction: placements with a mine at the cell, of all placements.
        final long[] mined = new long[Wide.LIMBS];
        final long[] all = new long[Wide.LIMBS];

        private final Field field;
        private final Border border;
        private final Survey survey;
        private final Series onBorder = new Series();
        private final Series withMine = new Series();
        private final long[] choices = new long[Wide.LIMBS];
        private final long[] term = new long[Wide.LIMBS];
        private final long[] divisor = new long[Wide.LIMBS];
        private final long[] spare = new long[Wide.LIMBS];

        Odds(Border border, Survey survey) {
            this.field = border.field;
            this.border = border;
            this.survey = survey;
        }

        /** Counts for an unknown cell, or for none; all shown numbers are split, and no part is too long. */
        void weigh(int cell) {
            Arrays.fill(mined, 0L);
            Arrays.fill(all, 0L);
            int part = cell == NONE ? NONE : border.partOf[cell];
            onBorder.begin();
            for (int p = 0; p < border.parts; p++) {
                if (p != part) {
                    survey.take(p, NONE);
                    onBorder.multiply(survey.tally, survey.tallyStart(p), border.sizeOf(p));
                }
            }
            if (part == NONE) {
                weighFree(cell != NONE);
                return;
            }
            survey.take(part, cell);
            withMine.copy(onBorder);
            withMine.multiply(survey.askedTally, 0, border.sizeOf(part));
            onBorder.multiply(survey.tally, survey.tallyStart(part), border.sizeOf(part));
            addPlacements(withMine, mined, false);
            addPlacements(onBorder, all, false);
        }

        /** Free cells are all alike: one has the mines of all of them, divided by how many they are. */
        private void weighFree(boolean asked) {
            addPlacements(onBorder, all, false);
            if (asked) {
                addPlacements(onBorder, mined, true);
                Wide.scale(all, border.freeCells());
            }
        }

        /** Brings the fraction to lowest terms. */
        void reduce() {
            if (Wide.isZero(mined)) {
                Wide.set(all, 1);
                return;
            }
            System.arraycopy(mined, 0, divisor, 0, Wide.LIMBS);
            System.arraycopy(all, 0, spare, 0, Wide.LIMBS);
            Wide.toCommonDivisor(divisor, spare);
            divideExactly(mined);
            divideExactly(all);
        }

        int ofThousand() {
            Wide.scale(mined, THOUSAND);
            Wide.divide(mined, all, term, spare);
            return (int) term[0];
        }

        private void divideExactly(long[] number) {
            Wide.divide(number, divisor, term, spare);
            System.arraycopy(term, 0, number, 0, Wide.LIMBS);
        }

        /** Adds up the placements by the mines off the border; each once, or once for each such mine. */
        private void addPlacements(Series series, long[] sum, boolean byFreeMines) {
            int free = border.freeCells();
            int left = field.minesLeft();
            Wide.set(choices, 1);
            for (int off = 0; off <= free && off <= left - series.low; off++) {
                if (left - off <= series.high) {
                    Arrays.fill(term, 0L);
                    Wide.addProduct(term, series.limbs, (left - off) * Wide.LIMBS, choices);
                    Wide.addScaled(sum, term, 0, byFreeMines ? off : 1);
                }
                Wide.scale(choices, free - off);
                Wide.shrink(choices, off + 1);
            }
        }
    }

    /** In how many ways t mines can be on some parts together, for each t from low to high. */
    private static final class Series {
        final long[] limbs = new long[(CELLS + 1) * Wide.LIMBS];
        int low;
        int high;
        private final long[] sum = new long[Wide.LIMBS];

        void begin() {
            low = 0;
            high = 0;
            Wide.set(sum, 1);
            System.arraycopy(sum, 0, limbs, 0, Wide.LIMBS);
        }

        void copy(Series other) {
            low = other.low;
            high = other.high;
            for (int i = low * Wide.LIMBS; i < (high + 1) * Wide.LIMBS; i++) {
                limbs[i] = other.limbs[i];
            }
        }

        /** Takes a part more, which has so many ways with 0 .. most mines. */
        void multiply(int[] tally, int start, int most) {
            int least = NONE;
            int top = NONE;
            for (int m = 0; m <= most; m++) {
                if (tally[start + m] != 0) {
                    least = least == NONE ? m : least;
                    top = m;
                }
            }
            if (least == NONE || high + top > CELLS) {
                high = low - 1;
                return;
            }
            // From the highest on: what is written over is not read again.
            for (int t = high + top; t >= low + least; t--) {
                Arrays.fill(sum, 0L);
                for (int m = Math.max(least, t - high); m <= top && m <= t - low; m++) {
                    Wide.addScaled(sum, limbs, (t - m) * Wide.LIMBS, tally[start + m]);
                }
                System.arraycopy(sum, 0, limbs, t * Wide.LIMBS, Wide.LIMBS);
            }
            low += least;
            high += top;
        }
    }

    /** Numbers of six limbs of 31 bits, the lowest first: 2 to the 144 times 144 times 1000 fits. */
    private static final class Wide {
        static final int LIMBS = 6;
        private static final int LIMB_BITS = 31;
        private static final long LIMB = 0x7fffffffL;
        private static final int BITS = LIMBS * LIMB_BITS;

        static void set(long[] a, int value) {
            Arrays.fill(a, 0L);
            a[0] = value;
        }

        static boolean isZero(long[] a) {
            long bits = 0;
            for (int i = 0; i < LIMBS; i++) {
                bits |= a[i];
            }
            return bits == 0;
        }

        static boolean isLess(long[] a, long[] b) {
            for (int i = LIMBS - 1; i >= 0; i--) {
                if (a[i] != b[i]) {
                    return a[i] < b[i];
                }
            }
            return false;
        }

        static void scale(long[] a, int factor) {
            long carry = 0;
            for (int i = 0; i < LIMBS; i++) {
                carry += a[i] * factor;
                a[i] = carry & LIMB;
                carry >>>= LIMB_BITS;
            }
        }

        static void addScaled(long[] a, long[] b, int start, int factor) {
            long carry = 0;
            for (int i = 0; i < LIMBS; i++) {
                carry += a[i] + b[start + i] * factor;
                a[i] = carry & LIMB;
                carry >>>= LIMB_BITS;
            }
        }

        static void addProduct(long[] a, long[] b, int start, long[] c) {
            for (int i = 0; i < LIMBS; i++) {
                long factor = b[start + i];
                long carry = 0;
                for (int j = 0; factor != 0 && i + j < LIMBS; j++) {
                    carry += a[i + j] + factor * c[j];
                    a[i + j] = carry & LIMB;
                    carry >>>= LIMB_BITS;
                }
            }
        }

        static void shrink(long[] a, int by) {
            if (by < 1) {
                return;
            }
            long rest = 0;
            for (int i = LIMBS - 1; i >= 0; i--) {
                rest = rest << LIMB_BITS | a[i];
                a[i] = rest / by;
                rest %= by;
            }
        }

        static long remainder(long[] a, int by) {
            long rest = 0;
            for (int i = LIMBS - 1; i >= 0 && by > 0; i--) {
                rest = (rest << LIMB_BITS | a[i]) % by;
            }
            return rest;
        }

        /** The first becomes the greatest common divisor; the second is used up. Neither is 0. */
        static void toCommonDivisor(long[] a, long[] b) {
            int twos = 0;
            for (; twos < BITS && ((a[0] | b[0]) & 1) == 0; twos++) {
                shiftDown(a, 1);
                shiftDown(b, 1);
            }
            for (int step = 0; step < 4 * BITS && !isZero(b); step++) {
                if ((a[0] & 1) == 0) {
                    shiftDown(a, twosOf(a));
                } else if ((b[0] & 1) == 0) {
                    shiftDown(b, twosOf(b));
                } else if (isLess(b, a)) {
                    subtract(a, b);
                } else {
                    subtract(b, a);
                }
            }
            for (int i = 0; i < twos; i++) {
                scale(a, 2);
            }
        }

        /** Divides by a number that is not 0, bit by bit. */
        static void divide(long[] a, long[] by, long[] quotient, long[] rest) {
            Arrays.fill(quotient, 0L);
            Arrays.fill(rest, 0L);
            for (int bit = BITS - 1; bit >= 0; bit--) {
                int limb = bit / LIMB_BITS;
                scale(rest, 2);
                rest[0] |= a[limb] >> bit % LIMB_BITS & 1;
                if (!isLess(rest, by)) {
                    subtract(rest, by);
                    quotient[limb] |= 1L << bit % LIMB_BITS;
                }
            }
        }

        private static void subtract(long[] a, long[] b) {
            long carry = 0;
            for (int i = 0; i < LIMBS; i++) {
                carry += a[i] - b[i];
                a[i] = carry & LIMB;
                carry >>= LIMB_BITS;
            }
        }

        private static int twosOf(long[] a) {
            return Math.min(LIMB_BITS - 1, Long.bitCount((a[0] & -a[0]) - 1));
        }

        private static void shiftDown(long[] a, int bits) {
            for (int i = 0; i < LIMBS; i++) {
                long above = i + 1 < LIMBS ? a[i + 1] : 0;
                a[i] = (above << LIMB_BITS | a[i]) >>> bits & LIMB;
            }
        }
    }
}
