import java.util.ArrayList;
import java.util.List;

/** Strokes worked out a second time, by hand as it were: rows, columns and signs, and none of the class's own ways. */
final class PaperTable {
    static final class Piece {
        char kind;
        final int worth;
        int row, column;
        boolean on = true;

        Piece(char kind, int worth, int row, int column) {
            this.kind = kind;
            this.worth = worth;
            this.row = row;
            this.column = column;
        }
    }

    final List<Piece> pieces = new ArrayList<>();
    private final int spotRow, spotColumn;
    int brings, bounces, moves, pottedBits;
    boolean foul;
    private boolean whiteHit;
    private int hitDown, hitRight, hitPower;

    PaperTable(String text) {
        spotRow = text.charAt(0) - '0';
        spotColumn = text.charAt(1) - '0';
        pieces.add(new Piece('b', 0, spotRow, spotColumn));
        for (String part : text.substring(3).split(",")) {
            pieces.add(new Piece(part.charAt(0), part.charAt(1) - '0', part.charAt(2) - '0', part.charAt(3) - '0'));
        }
    }

    private PaperTable(PaperTable other) {
        spotRow = other.spotRow;
        spotColumn = other.spotColumn;
        for (Piece piece : other.pieces) {
            Piece twin = new Piece(piece.kind, piece.worth, piece.row, piece.column);
            twin.on = piece.on;
            pieces.add(twin);
        }
    }

    PaperTable copy() {
        return new PaperTable(this);
    }

    /** The table as it would be behind a stroke, with what it brought; this one stays as it is. */
    PaperTable behind(int direction, int strength, int spin) {
        PaperTable next = copy();
        next.stroke(direction, strength, spin);
        return next;
    }

    int spot() {
        return 9 * spotRow + spotColumn;
    }

    int ballIn(int cell) {
        return pieces.indexOf(at(cell / 9, cell % 9));
    }

    void lay(int ball, int cell) {
        Piece piece = pieces.get(ball);
        piece.on = cell >= 0;
        if (!piece.on) return;
        piece.row = cell / 9;
        piece.column = cell % 9;
    }

    int cell(int ball) {
        if (ball >= pieces.size() || !pieces.get(ball).on) return -1;
        return 9 * pieces.get(ball).row + pieces.get(ball).column;
    }

    void stroke(int direction, int strength, int spin) {
        brings = bounces = moves = pottedBits = 0;
        whiteHit = false;
        String[] ways = {"-0", "-+", "0+", "++", "+0", "+-", "0-", "--"};
        roll(0, sign(ways[direction].charAt(0)), sign(ways[direction].charAt(1)), strength);
        boolean noHit = !whiteHit;
        if (whiteHit && pieces.get(0).on && spin == 1) roll(0, hitDown, hitRight, hitPower / 2);
        if (whiteHit && pieces.get(0).on && spin == 2) roll(0, -hitDown, -hitRight, hitPower / 2);
        foul = noHit || !pieces.get(0).on;
        if (foul) brings -= 4;
        if (!pieces.get(0).on) respot();
    }

    private static int sign(char c) {
        return c == '+' ? 1 : c == '-' ? -1 : 0;
    }

    private Piece at(int row, int column) {
        for (Piece piece : pieces) if (piece.on && piece.row == row && piece.column == column) return piece;
        return null;
    }

    private void roll(int ball, int down, int right, int power) {
        Piece piece = pieces.get(ball);
        while (power > 0) {
            int row = piece.row + down, column = piece.column + right;
            if (row < 0 || row > 4 || column < 0 || column > 8) {
                if (piece.kind == 'd') return;
                if (row < 0 || row > 4) down = -down;
                if (column < 0 || column > 8) right = -right;
                bounces++;
                power--;
                continue;
            }
            Piece other = at(row, column);
            if (other != null) {
                if (ball == 0 && !whiteHit) {
                    whiteHit = true;
                    hitDown = down;
                    hitRight = right;
                    hitPower = power - 1;
                }
                roll(pieces.indexOf(other), down, right, received(other.kind, power - 1));
                return;
            }
            piece.row = row;
            piece.column = column;
            moves++;
            power--;
            if (Check.isPocket(9 * row + column)) {
                piece.on = false;
                pottedBits += 1 << ball;
                brings += piece.worth;
                return;
            }
        }
    }

    private static int received(char kind, int power) {
        switch (kind) {
            case 'h': return (int) Math.floor(power / 2.0);
            case 's': return (int) Math.floor(Math.floor(power / 2.0) / 2.0);
            case 'l': return power + 1;
            default: return power;
        }
    }

    private void respot() {
        Piece white = pieces.get(0);
        int row = spotRow, column = spotColumn;
        for (int cell = 0; at(row, column) != null; cell++) {
            if (Check.isPocket(cell) || at(cell / 9, cell % 9) != null) continue;
            row = cell / 9;
            column = cell % 9;
        }
        white.row = row;
        white.column = column;
        white.on = true;
    }
}
