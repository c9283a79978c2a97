import java.util.ArrayList;
import java.util.List;
import java.util.regex.Pattern;

/** The whole document worked out a second time, call by call, on a PaperTable: slow and plain, made anew at every turn. */
final class PaperWhite {
    private static final String KINDS = "bhlds";
    private static final int NONE = Check.NONE, UNKNOWN = Check.UNKNOWN, OUTSIDE = Check.OUTSIDE;
    private static final int STATE = Check.STATE, FULL = Check.FULL;
    private static final Pattern WHOLE = Pattern.compile("[0-4][0-8];[bhlds][1-7][0-4][0-8](,[bhlds][1-7][0-4][0-8]){0,5}");

    private record Seen(int ball, int direction, int strength, int cell) { }

    private record Image(PaperTable table, List<Seen> seen, int score, int strokes, int fouls) { }

    private record Choice(int worth, int direction, int strength, int spin) {
        int tell(int what) {
            return new int[] {worth + 100, direction, strength, spin}[what];
        }
    }

    private String page = "";
    private PaperTable table;
    private List<Seen> seen = new ArrayList<>();
    private Image image;
    private int score, strokes, fouls, read, plans, safes;

    private static boolean within(int number, int least, int most) {
        return least <= number && number <= most;
    }

    int letter(int code) {
        if (!within(code, 1, 126)) return OUTSIDE;
        if (page.length() == 34) return FULL;
        page += (char) code;
        return page.length();
    }

    int blank() {
        int had = page.length();
        page = "";
        return had;
    }

    int fault() {
        int place = 0;
        while (place < page.length() && isBegun(page.substring(0, place + 1))) place++;
        return place;
    }

    int table() {
        if (!WHOLE.matcher(page).matches() || fault() < page.length()) return STATE;
        table = new PaperTable(page);
        page = "";
        image = null;
        seen = new ArrayList<>();
        score = strokes = fouls = 0;
        read++;
        return balls();
    }

    // The end of a sample is set behind the text: the form must be whole then. The text's own cells are looked at apart.
    private static boolean isBegun(String text) {
        String sample = "00;b100,b100,b100,b100,b100,b100";
        if (text.length() > sample.length()) return false;
        int behind = text.length() % 5;
        String rest = text.length() < 7 ? sample.substring(text.length(), 7)
            : behind == 2 ? "" : sample.substring(text.length(), text.length() + (7 - behind) % 5);
        if (!WHOLE.matcher(text + rest).matches()) return false;
        List<String> cells = new ArrayList<>(List.of("00", "04", "08", "40", "44", "48"));
        for (int place = 0; place + 1 < text.length(); place += 5) {
            String cell = text.substring(place, place + 2);
            if (cells.contains(cell)) return false;
            cells.add(cell);
        }
        return true;
    }

    private int balls() {
        return table == null ? 0 : table.pieces.size() - 1;
    }

    private boolean isBall(int ball) {
        return table != null && within(ball, 0, balls());
    }

    private boolean isBallButWhite(int ball) {
        return isBall(ball) && ball != 0;
    }

    private int kindOf(int ball) {
        return KINDS.indexOf(table.pieces.get(ball).kind);
    }

    int ball(int ball, int what) {
        if (!isBall(ball)) return UNKNOWN;
        switch (what) {
            case 0: return kindOf(ball);
            case 1: return table.pieces.get(ball).worth;
            case 2: return table.cell(ball);
            case 3: return ball == 0 ? 1 : kinds(ball).stream().mapToInt(kind -> 1 << kind).sum();
            case 4: return ball == 0 ? NONE : telling(ball);
            case 5: return ball == 0 || table.cell(ball) == NONE ? 0 : Long.bitCount(wanted(ball));
            default: return OUTSIDE;
        }
    }

    private int endAs(int ball, int kind, int direction, int strength) {
        PaperTable as = table.copy();
        as.pieces.get(ball).kind = KINDS.charAt(kind);
        as.stroke(direction, strength, 0);
        return as.cell(ball);
    }

    private List<Integer> kinds(int ball) {
        List<Integer> kinds = new ArrayList<>(List.of(0, 1, 2, 3, 4));
        for (Seen s : seen) {
            if (s.ball == ball) kinds.removeIf(kind -> endAs(ball, kind, s.direction, s.strength) != s.cell);
        }
        return kinds;
    }

    private int telling(int ball) {
        List<Integer> kinds = kinds(ball);
        int told = NONE, fewest = 6;
        for (int direction = 0; direction < 8 && !kinds.isEmpty(); direction++) {
            int[] left = new int[46];
            int worst = 0;
            for (int kind : kinds) worst = Math.max(worst, ++left[endAs(ball, kind, direction, 6) + 1]);
            if (worst < fewest) told = direction;
            fewest = Math.min(fewest, worst);
        }
        return told;
    }

    int as(int ball, int kind) {
        if (!isBall(ball)) return UNKNOWN;
        if (!within(kind, 0, 4)) return OUTSIDE;
        String[] such = {"0", "01", "02", "03", "014"};
        return such[kindOf(ball)].contains("" + kind) ? ball : NONE;
    }

    int cell(int cell) {
        if (table == null || !within(cell, 0, 44)) return UNKNOWN;
        return Check.isPocket(cell) ? -2 : table.ballIn(cell);
    }

    int sees(int direction) {
        if (!within(direction, 0, 7)) return OUTSIDE;
        if (table == null) return STATE;
        int down = "00122210".charAt(direction) - '1', right = "12221000".charAt(direction) - '1';
        PaperTable.Piece white = table.pieces.get(0);
        for (int step = 1; step <= 8; step++) {
            int row = white.row + step * down, column = white.column + step * right;
            if (!within(row, 0, 4) || !within(column, 0, 8)) return NONE;
            if (table.ballIn(9 * row + column) != NONE) return table.ballIn(9 * row + column);
        }
        return NONE;
    }

    int put(int ball, int cell) {
        if (!isBall(ball) || !within(cell, 0, 44)) return UNKNOWN;
        int lay = table.cell(ball);
        if (cell != lay && (Check.isPocket(cell) || table.ballIn(cell) != NONE)) return STATE;
        table.lay(ball, cell);
        return lay;
    }

    int lift(int ball) {
        if (!isBallButWhite(ball)) return UNKNOWN;
        int lay = table.cell(ball);
        table.lay(ball, NONE);
        return lay == NONE ? STATE : lay;
    }

    int change(int ball, int kind) {
        if (!isBallButWhite(ball)) return UNKNOWN;
        if (!within(kind, 0, 4)) return OUTSIDE;
        int was = kindOf(ball);
        table.pieces.get(ball).kind = KINDS.charAt(kind);
        return was;
    }

    private static boolean isStroke(int direction, int strength, int spin) {
        return within(direction, 0, 7) && within(strength, 1, 9) && within(spin, 0, 2);
    }

    int stroke(int direction, int strength, int spin) {
        if (!isStroke(direction, strength, spin)) return OUTSIDE;
        if (table == null) return STATE;
        table = table.behind(direction, strength, spin);
        score += table.brings;
        strokes++;
        if (table.foul) fouls++;
        return table.brings + 100;
    }

    int would(int direction, int strength, int spin, int what) {
        if (!isStroke(direction, strength, spin) || !within(what, 0, 15) || within(what, 6, 9)) return OUTSIDE;
        if (table == null) return STATE;
        PaperTable then = table.behind(direction, strength, spin);
        if (what >= 10) return then.cell(what - 9);
        int foul = then.foul ? 1 : 0;
        return new int[] {then.brings + 100, then.cell(0), then.pottedBits, foul, then.moves, then.bounces}[what];
    }

    private static int reply(PaperTable to) {
        int most = -4;
        for (int number = 0; number < 24; number++) most = Math.max(most, to.behind(number % 8, 3 + number / 8 * 3, 0).brings);
        return most;
    }

    /** The first of the best by a way of weighing: 'b' BEST, 'p' PLAN, 's' SAFE; null where all are FOULS that may not be. */
    private Choice choice(char way) {
        Choice chosen = null;
        for (int direction = 0; direction < 8; direction++) {
            for (int strength = 1; strength <= 9; strength++) {
                for (int spin = 0; spin < 3; spin++) {
                    PaperTable then = table.behind(direction, strength, spin);
                    if (way == 's' && then.foul) continue;
                    int worth = way == 'b' ? then.brings : reply(then) + (way == 'p' ? then.brings : 0);
                    boolean better = chosen == null || (way == 's' ? worth < chosen.worth : worth > chosen.worth);
                    if (better) chosen = new Choice(worth, direction, strength, spin);
                }
            }
        }
        return chosen;
    }

    int best(int what) {
        if (!within(what, 0, 3)) return OUTSIDE;
        return table == null ? STATE : choice('b').tell(what);
    }

    int plan(int what) {
        if (!within(what, 0, 3)) return OUTSIDE;
        if (table == null || plans == 8) return STATE;
        plans++;
        return choice('p').tell(what);
    }

    int safe(int what) {
        if (!within(what, 0, 3)) return OUTSIDE;
        if (table == null || safes == 8) return STATE;
        safes++;
        Choice chosen = choice('s');
        return chosen == null ? NONE : chosen.tell(what);
    }

    long wanted(int ball) {
        if (!isBallButWhite(ball) || table.cell(ball) == NONE) return UNKNOWN;
        long bits = 0;
        for (int cell = 0; cell < 45; cell++) {
            if (Check.isPocket(cell) || table.ballIn(cell) > 0) continue;
            PaperTable from = table.copy();
            from.lay(0, cell);
            for (int number = 0; number < 72; number++) {
                PaperTable then = from.behind(number % 8, 1 + number / 8, 0);
                if (!then.foul && then.cell(ball) == NONE) bits |= 1L << cell;
            }
        }
        return bits;
    }

    int see(int ball, int direction, int strength, int cell) {
        if (!isBallButWhite(ball) || !within(cell, NONE, 44)) return UNKNOWN;
        if (!isStroke(direction, strength, 0)) return OUTSIDE;
        if (seen.size() == 6) return FULL;
        seen.add(new Seen(ball, direction, strength, cell));
        return seen.size();
    }

    int forget() {
        int was = seen.size();
        seen.clear();
        return was;
    }

    int frames(int strokes, int seed, int what) {
        if (!within(strokes, 1, 60) || seed < 0 || !within(what, 0, 2)) return OUTSIDE;
        if (table == null) return STATE;
        PaperTable then = table;
        int together = 1000;
        long[] next = {seed};
        for (int number = 0; number < strokes; number++) {
            int direction = draw(next, 8), strength = draw(next, 9) + 1, spin = draw(next, 3);
            then = then.behind(direction, strength, spin);
            together += then.brings;
        }
        return new int[] {together, lying(then), (int) next[0]}[what];
    }

    private static int draw(long[] seed, int of) {
        seed[0] = (1103515245L * seed[0] + 12345) % (1L << 31);
        return (int) (seed[0] / 65536 % of);
    }

    private static int lying(PaperTable on) {
        return (int) on.pieces.stream().skip(1).filter(piece -> piece.on).count();
    }

    int image() {
        if (table == null) return STATE;
        image = new Image(table.copy(), List.copyOf(seen), score, strokes, fouls);
        return strokes;
    }

    int restore() {
        if (image == null) return STATE;
        table = image.table.copy();
        seen = new ArrayList<>(image.seen);
        score = image.score;
        strokes = image.strokes;
        fouls = image.fouls;
        return strokes;
    }

    int count(int what) {
        if (!within(what, 0, 13)) return OUTSIDE;
        int worth = 0, inSight = 0;
        for (int ball = 1; ball <= balls(); ball++) if (table.cell(ball) != NONE) worth += table.pieces.get(ball).worth;
        for (int direction = 0; direction < 8; direction++) if (sees(direction) > 0) inSight++;
        return new int[] {balls(), table == null ? 0 : lying(table), worth, score + 1000, strokes, fouls, inSight,
            table == null ? 0 : table.cell(0), table == null ? 0 : table.spot(), seen.size(), page.length(),
            read, plans, safes}[what];
    }

    long digest() {
        List<Integer> numbers = new ArrayList<>();
        for (int ball = 0; table != null && ball <= balls(); ball++) {
            for (int what = 0; what <= 2; what++) numbers.add(ball(ball, what));
        }
        if (table != null) {
            numbers.add(ball(1, 3));
            numbers.add(ball(1, 4));
            for (int direction = 0; direction < 8; direction++) numbers.add(sees(direction));
            for (int what = 0; what <= 3; what++) numbers.add(best(what));
            for (int what = 0; what <= 5; what++) numbers.add(would(3, 9, 1, what));
        }
        page.chars().forEach(numbers::add);
        for (int what = 0; what <= 13; what++) numbers.add(count(what));
        long h = 1097;
        for (int number : numbers) h = 31 * h + number;
        return h;
    }
}
