import java.math.BigInteger;

/** Boards for tests, and what can be seen of them, written short. */
final class Desks {
    private Desks() { }

    /** A blank board with mines where the rows of the picture have an x. */
    static MineDesk board(int shape, String... rows) {
        MineDesk desk = new MineDesk();
        desk.blank(rows[0].length(), rows.length, shape);
        for (int r = 0; r < rows.length; r++) {
            for (int c = 0; c < rows[r].length(); c++) {
                if (rows[r].charAt(c) == 'x') desk.edit(r, c, true);
            }
        }
        return desk;
    }

    /** What a player sees, row by row: - closed, ! flagged, * hit. */
    static String seen(MineDesk desk) {
        StringBuilder seen = new StringBuilder();
        for (int r = 0; r < desk.count(0); r++) {
            if (r > 0) seen.append('/');
            for (int c = 0; c < desk.count(1); c++) seen.append("012345678?-!*".charAt(desk.shown(r, c)));
        }
        return seen.toString();
    }

    static String counts(MineDesk desk) {
        StringBuilder all = new StringBuilder();
        for (int what = 0; what <= 8; what++) all.append(what == 0 ? "" : " ").append(desk.count(what));
        return all.toString();
    }

    static String reason(MineDesk desk) {
        StringBuilder all = new StringBuilder("grade " + desk.reason(0) + ":");
        for (int k = 0; k < desk.reason(1); k++) all.append(' ').append(desk.reasonCell(k));
        return all + (desk.reason(2) == 1 ? " and the total" : "");
    }

    /** All that can be asked without changing anything. */
    static String all(MineDesk desk) {
        return seen(desk) + ", " + counts(desk) + ", " + reason(desk);
    }

    static String share(MineDesk desk, int r, int c) {
        BigInteger[] parts = {BigInteger.ZERO, BigInteger.ZERO};
        for (int part = 0; part < 2; part++) {
            for (int i = 7; i >= 0; i--) {
                parts[part] = parts[part].shiftLeft(31).add(BigInteger.valueOf(desk.share(r, c, part, i)));
            }
        }
        return parts[0] + "/" + parts[1];
    }

    static BigInteger choose(int n, int k) {
        BigInteger ways = BigInteger.ONE;
        for (int i = 0; i < k; i++) ways = ways.multiply(BigInteger.valueOf(n - i)).divide(BigInteger.valueOf(i + 1));
        return ways;
    }

    /** The cells whose number is 1, when the only mine is at one cell. */
    static String near(int shape, int w, int h, int cell) {
        MineDesk desk = new MineDesk();
        desk.blank(w, h, shape);
        desk.edit(cell / w, cell % w, true);
        StringBuilder near = new StringBuilder();
        for (int c = 0; c < w * h; c++) {
            if (c == cell) continue;
            if (desk.open(c / w, c % w) == 1) near.append(near.length() == 0 ? "" : " ").append(c);
            desk.undo();
        }
        return near.toString();
    }
}
