import java.util.Arrays;

/** The white where it is wanted: a table of balls, its strokes, and which of them to choose. */
public final class WhiteWanted {
    public static final int NONE = -1, UNKNOWN = -101, OUTSIDE = -102, STATE = -103, FULL = -104;

    private static final int ROWS = 5, COLUMNS = 9, CELLS = 45, WHITE = 0, MOST_BALLS = 6;
    private static final int DIRECTIONS = 8, STRENGTHS = 9, SPINS = 3, KINDS = 5;
    private static final int POCKET = -2, MOST_SEEN = 6, MOST_PLANS = 8, MOST_STROKES = 60;
    private static final int BRINGS_BASE = 100, SCORE_BASE = 1000, FOUL_COST = 4, TRY_STRENGTH = 6;

    private final Ball[] kinds;
    private final Page page;
    private final Game game;
    private final Game kept;
    private final Stroke trial;
    private final Adviser adviser;
    private final Guesser guesser;
    private boolean imageKept;
    private int tablesRead;
    private int plansDone;
    private int safesDone;

    public WhiteWanted() {
        kinds = new Ball[] {new Ball(), new Heavy(), new Light(), new Dead(), new Stone()};
        page = new Page();
        game = new Game();
        kept = new Game();
        trial = new Stroke(kinds);
        adviser = new Adviser(trial, new Stroke(kinds));
        guesser = new Guesser(trial);
    }

    public int letter(int code) {
        if (!within(code, 1, 126)) return OUTSIDE;
        if (page.isFull()) return FULL;
        page.append(code);
        return page.size;
    }

    public int blank() {
        int had = page.size;
        page.size = 0;
        return had;
    }

    public int fault() {
        return page.firstFault();
    }

    public int table() {
        if (!page.isWhole()) return STATE;
        game.clear();
        page.readInto(game.table);
        page.size = 0;
        imageKept = false;
        tablesRead++;
        return game.table.size;
    }

    public int ball(int ball, int what) {
        if (!isBall(ball)) return UNKNOWN;
        if (!within(what, 0, 5)) return OUTSIDE;
        switch (what) {
            case 0: return game.table.kindOf(ball);
            case 1: return game.table.worthOf(ball);
            case 2: return game.table.cellOf(ball);
            case 3: return ball == WHITE ? 1 : guesser.possibleKinds(game, ball);
            case 4: return ball == WHITE ? NONE : guesser.tellingDirection(game, ball);
            default: return Long.bitCount(wantedCells(ball));
        }
    }

    public int as(int ball, int kind) {
        if (!isBall(ball)) return UNKNOWN;
        if (!within(kind, 0, KINDS - 1)) return OUTSIDE;
        return isOfKind(game.table.kindOf(ball), kind) ? ball : NONE;
    }

    public int cell(int cell) {
        if (!hasTable() || !isCell(cell)) return UNKNOWN;
        return isPocket(cell) ? POCKET : game.table.ballIn(cell);
    }

    public int sees(int direction) {
        if (!isDirection(direction)) return OUTSIDE;
        if (!hasTable()) return STATE;
        return game.table.firstInSight(direction);
    }

    public int put(int ball, int cell) {
        if (!isBall(ball) || !isCell(cell)) return UNKNOWN;
        int there = game.table.ballIn(cell);
        if (isPocket(cell) || (there != NONE && there != ball)) return STATE;
        int lay = game.table.cellOf(ball);
        game.table.lay(ball, cell);
        return lay;
    }

    public int lift(int ball) {
        if (!isObjectBall(ball)) return UNKNOWN;
        int lay = game.table.cellOf(ball);
        if (lay == NONE) return STATE;
        game.table.lay(ball, NONE);
        return lay;
    }

    public int change(int ball, int kind) {
        if (!isObjectBall(ball)) return UNKNOWN;
        if (!within(kind, 0, KINDS - 1)) return OUTSIDE;
        int was = game.table.kindOf(ball);
        game.table.setKind(ball, kind);
        return was;
    }

    public int stroke(int direction, int strength, int spin) {
        if (!isStroke(direction, strength, spin)) return OUTSIDE;
        if (!hasTable()) return STATE;
        trial.begin(game.table);
        trial.shoot(direction, strength, spin);
        game.take(trial);
        return trial.brings + BRINGS_BASE;
    }

    public int would(int direction, int strength, int spin, int what) {
        if (!isStroke(direction, strength, spin)) return OUTSIDE;
        if (!within(what, 0, 5) && !within(what, 10, 15)) return OUTSIDE;
        if (!hasTable()) return STATE;
        trial.begin(game.table);
        trial.shoot(direction, strength, spin);
        return trial.tell(what);
    }

    public int best(int what) {
        if (!within(what, 0, 3)) return OUTSIDE;
        if (!hasTable()) return STATE;
        adviser.chooseBest(game.table);
        return adviser.tell(what);
    }

    public int plan(int what) {
        if (!within(what, 0, 3)) return OUTSIDE;
        if (!hasTable() || plansDone >= MOST_PLANS) return STATE;
        plansDone++;
        adviser.choosePlan(game.table);
        return adviser.tell(what);
    }

    public int safe(int what) {
        if (!within(what, 0, 3)) return OUTSIDE;
        if (!hasTable() || safesDone >= MOST_PLANS) return STATE;
        safesDone++;
        adviser.chooseSafe(game.table);
        return adviser.tell(what);
    }

    public long wanted(int ball) {
        if (!isObjectBall(ball) || game.table.cellOf(ball) == NONE) return UNKNOWN;
        return wantedCells(ball);
    }

    public int see(int ball, int direction, int strength, int cell) {
        if (!isObjectBall(ball)) return UNKNOWN;
        if (!isCell(cell) && cell != NONE) return UNKNOWN;
        if (!isStroke(direction, strength, 0)) return OUTSIDE;
        if (game.seen >= MOST_SEEN) return FULL;
        game.note(ball, direction, strength, cell);
        return game.seen;
    }

    public int forget() {
        int was = game.seen;
        game.seen = 0;
        return was;
    }

    public int frames(int strokes, int seed, int what) {
        if (!within(strokes, 1, MOST_STROKES) || seed < 0 || !within(what, 0, 2)) return OUTSIDE;
        if (!hasTable()) return STATE;
        int next = seed;
        int together = SCORE_BASE;
        trial.begin(game.table);
        for (int number = 0; number < strokes; number++) {
            next = nextSeed(next);
            int direction = drawn(next) % DIRECTIONS;
            next = nextSeed(next);
            int strength = drawn(next) % STRENGTHS + 1;
            next = nextSeed(next);
            int spin = drawn(next) % SPINS;
            trial.shoot(direction, strength, spin);
            together += trial.brings;
        }
        if (what == 0) return together;
        return what == 1 ? trial.table.lying() : next;
    }

    public int image() {
        if (!hasTable()) return STATE;
        kept.copy(game);
        imageKept = true;
        return game.strokes;
    }

    public int restore() {
        if (!imageKept) return STATE;
        game.copy(kept);
        return game.strokes;
    }

    public int count(int what) {
        switch (what) {
            case 0: return game.table.size;
            case 1: return game.table.lying();
            case 2: return game.table.worthLying();
            case 3: return game.score + SCORE_BASE;
            case 4: return game.strokes;
            case 5: return game.fouls;
            case 6: return ballsInSight();
            case 7: return hasTable() ? game.table.cellOf(WHITE) : 0;
            case 8: return game.table.spot;
            case 9: return game.seen;
            case 10: return page.size;
            case 11: return tablesRead;
            case 12: return plansDone;
            case 13: return safesDone;
            default: return OUTSIDE;
        }
    }

    public long digest() {
        long h = 1097;
        if (hasTable()) {
            h = digestOfBalls(h);
            for (int direction = 0; direction < DIRECTIONS; direction++) h = 31 * h + sees(direction);
            h = digestOfStrokes(h);
        }
        h = page.digestOn(h);
        for (int what = 0; what <= 13; what++) h = 31 * h + count(what);
        return h;
    }

    // Not by ball(): that would stand open one call too many above a stroke (LANGUAGE.md 11).
    private long digestOfBalls(long start) {
        long h = start;
        for (int ball = 0; ball <= game.table.size; ball++) {
            h = 31 * h + game.table.kindOf(ball);
            h = 31 * h + game.table.worthOf(ball);
            h = 31 * h + game.table.cellOf(ball);
        }
        h = 31 * h + guesser.possibleKinds(game, 1);
        return 31 * h + guesser.tellingDirection(game, 1);
    }

    // The choice is made once and told four times: best() would search anew for each part.
    private long digestOfStrokes(long start) {
        long h = start;
        adviser.chooseBest(game.table);
        for (int what = 0; what <= 3; what++) h = 31 * h + adviser.tell(what);
        trial.begin(game.table);
        trial.shoot(3, 9, 1);
        for (int what = 0; what <= 5; what++) h = 31 * h + trial.tell(what);
        return h;
    }

    private boolean hasTable() {
        return tablesRead > 0;
    }

    private boolean isBall(int ball) {
        return hasTable() && within(ball, 0, game.table.size);
    }

    private boolean isObjectBall(int ball) {
        return ball != WHITE && isBall(ball);
    }

    private boolean isOfKind(int own, int asked) {
        Ball ball = own >= 0 && own < kinds.length ? kinds[own] : null;
        switch (asked) {
            case 0: return ball instanceof Ball;
            case 1: return ball instanceof Heavy;
            case 2: return ball instanceof Light;
            case 3: return ball instanceof Dead;
            default: return ball instanceof Stone;
        }
    }

    private long wantedCells(int ball) {
        boolean lies = ball != WHITE && game.table.cellOf(ball) != NONE;
        return lies ? adviser.cellsToPotFrom(game.table, ball) : 0;
    }

    private int ballsInSight() {
        int found = 0;
        for (int direction = 0; direction < DIRECTIONS && hasTable(); direction++) {
            if (game.table.firstInSight(direction) != NONE) found++;
        }
        return found;
    }

    private static boolean within(int number, int least, int most) {
        return number >= least && number <= most;
    }

    private static boolean isCell(int cell) {
        return within(cell, 0, CELLS - 1);
    }

    private static boolean isDirection(int direction) {
        return within(direction, 0, DIRECTIONS - 1);
    }

    private static boolean isStroke(int direction, int strength, int spin) {
        return isDirection(direction) && within(strength, 1, STRENGTHS) && within(spin, 0, SPINS - 1);
    }

    private static boolean isPocket(int cell) {
        int row = cell / COLUMNS;
        return (row == 0 || row == ROWS - 1) && cell % COLUMNS % 4 == 0;
    }

    private static boolean isRow(int row) {
        return row >= 0 && row < ROWS;
    }

    private static boolean isColumn(int column) {
        return column >= 0 && column < COLUMNS;
    }

    private static int nextSeed(int seed) {
        return (int) ((1103515245L * seed + 12345L) & 0x7fffffffL);
    }

    private static int drawn(int seed) {
        return seed / 65536;
    }

    /** A plain ball; the kinds below say only in what they differ from it. */
    private static class Ball {
        int powerWhenHit(int power) {
            return power;
        }

        boolean stopsAtCushion() {
            return false;
        }
    }

    private static class Heavy extends Ball {
        int powerWhenHit(int power) {
            return power / 2;
        }
    }

    private static final class Stone extends Heavy {
        int powerWhenHit(int power) {
            return power / 2 / 2;
        }
    }

    private static final class Light extends Ball {
        int powerWhenHit(int power) {
            return power + 1;
        }
    }

    private static final class Dead extends Ball {
        boolean stopsAtCushion() {
            return true;
        }
    }

    /**
     * The letters from which a table is read. Every ball takes five places, the white with its two
     * standing as the end of such a five: so a place's rest by five tells what must stand there.
     */
    private static final class Page {
        private static final int MOST_LETTERS = 34, LEAST_WHOLE = 7, MOST_WHOLE = 32;
        private static final String KIND_LETTERS = "bhlds";

        private final int[] letters = new int[MOST_LETTERS];
        private int size;

        boolean isFull() {
            return size >= letters.length;
        }

        void append(int code) {
            if (isFull()) return;
            letters[size] = code;
            size++;
        }

        int firstFault() {
            for (int place = 0; place < size; place++) {
                if (!fits(place)) return place;
            }
            return size;
        }

        boolean isWhole() {
            return size >= LEAST_WHOLE && size % 5 == 2 && firstFault() == size;
        }

        void readInto(Table table) {
            table.size = size / 5;
            table.spot = cellAt(1);
            table.lay(WHITE, table.spot);
            for (int ball = 1; ball <= table.size; ball++) {
                int column = 5 * ball + 1;
                table.setKind(ball, KIND_LETTERS.indexOf((char) at(column - 3)));
                table.setWorth(ball, digitAt(column - 2));
                table.lay(ball, cellAt(column));
            }
        }

        long digestOn(long start) {
            long h = start;
            for (int place = 0; place < size; place++) h = 31 * h + at(place);
            return h;
        }

        private boolean fits(int place) {
            if (place >= MOST_WHOLE) return false;
            switch (place % 5) {
                case 0: return isRow(digitAt(place));
                case 1: return isColumn(digitAt(place)) && isFreeCell(place);
                case 2: return at(place) == (place == 2 ? ';' : ',');
                case 3: return KIND_LETTERS.indexOf((char) at(place)) >= 0;
                default: return within(digitAt(place), 1, 7);
            }
        }

        private boolean isFreeCell(int columnPlace) {
            int cell = cellAt(columnPlace);
            for (int earlier = 1; earlier < columnPlace; earlier += 5) {
                if (cellAt(earlier) == cell) return false;
            }
            return !isPocket(cell);
        }

        private int cellAt(int columnPlace) {
            return COLUMNS * digitAt(columnPlace - 1) + digitAt(columnPlace);
        }

        private int digitAt(int place) {
            return at(place) - '0';
        }

        private int at(int place) {
            return place >= 0 && place < letters.length ? letters[place] : 0;
        }
    }

    /** Where the balls lie, and of what kind and worth they are; the white is number 0. */
    private static final class Table {
        private static final int[] ROW_STEPS = {-1, -1, 0, 1, 1, 1, 0, -1};
        private static final int[] COLUMN_STEPS = {0, 1, 1, 1, 0, -1, -1, -1};

        private final int[] cells = new int[MOST_BALLS + 1];
        private final int[] kinds = new int[MOST_BALLS + 1];
        private final int[] worths = new int[MOST_BALLS + 1];
        private long taken;
        private int size;
        private int spot;

        Table() {
            Arrays.fill(cells, NONE);
        }

        void clear() {
            Arrays.fill(cells, NONE);
            taken = 0;
        }

        void copy(Table other) {
            System.arraycopy(other.cells, 0, cells, 0, cells.length);
            System.arraycopy(other.kinds, 0, kinds, 0, kinds.length);
            System.arraycopy(other.worths, 0, worths, 0, worths.length);
            taken = other.taken;
            size = other.size;
            spot = other.spot;
        }

        int cellOf(int ball) {
            return ball >= 0 && ball < cells.length ? cells[ball] : NONE;
        }

        int kindOf(int ball) {
            return ball >= 0 && ball < cells.length ? kinds[ball] : 0;
        }

        int worthOf(int ball) {
            return ball >= 0 && ball < cells.length ? worths[ball] : 0;
        }

        void setKind(int ball, int kind) {
            if (ball >= 0 && ball < cells.length) kinds[ball] = kind;
        }

        void setWorth(int ball, int worth) {
            if (ball >= 0 && ball < cells.length) worths[ball] = worth;
        }

        void lay(int ball, int cell) {
            if (ball < 0 || ball >= cells.length) return;
            if (cells[ball] != NONE) taken &= ~(1L << cells[ball]);
            if (cell != NONE) taken |= 1L << cell;
            cells[ball] = cell;
        }

        // The bits spare most look-ups the walk over the balls: strokes are tried by the thousand.
        int ballIn(int cell) {
            if ((taken >>> cell & 1) == 0) return NONE;
            for (int ball = 0; ball < cells.length; ball++) {
                if (cells[ball] == cell) return ball;
            }
            return NONE;
        }

        int lying() {
            int found = 0;
            for (int ball = 1; ball < cells.length; ball++) {
                if (cells[ball] != NONE) found++;
            }
            return found;
        }

        int worthLying() {
            int worth = 0;
            for (int ball = 1; ball < cells.length; ball++) {
                if (cells[ball] != NONE) worth += worthOf(ball);
            }
            return worth;
        }

        int firstInSight(int direction) {
            int row = cellOf(WHITE) / COLUMNS + rowStep(direction);
            int column = cellOf(WHITE) % COLUMNS + columnStep(direction);
            for (int step = 0; step < COLUMNS && isRow(row) && isColumn(column); step++) {
                int ball = ballIn(COLUMNS * row + column);
                if (ball != NONE) return ball;
                row += rowStep(direction);
                column += columnStep(direction);
            }
            return NONE;
        }

        void returnWhite() {
            int home = spot;
            for (int cell = 0; cell < CELLS && ballIn(home) != NONE; cell++) {
                if (!isPocket(cell)) home = cell;
            }
            lay(WHITE, home);
        }

        static int rowStep(int direction) {
            return ROW_STEPS[direction & 7];
        }

        static int columnStep(int direction) {
            return COLUMN_STEPS[direction & 7];
        }
    }

    /** All that an image keeps: the table, the score, and what was seen. */
    private static final class Game {
        private final Table table = new Table();
        private final int[] seenBalls = new int[MOST_SEEN];
        private final int[] seenDirections = new int[MOST_SEEN];
        private final int[] seenStrengths = new int[MOST_SEEN];
        private final int[] seenCells = new int[MOST_SEEN];
        private int seen;
        private int score;
        private int strokes;
        private int fouls;

        void clear() {
            table.clear();
            seen = 0;
            score = 0;
            strokes = 0;
            fouls = 0;
        }

        void copy(Game other) {
            table.copy(other.table);
            System.arraycopy(other.seenBalls, 0, seenBalls, 0, MOST_SEEN);
            System.arraycopy(other.seenDirections, 0, seenDirections, 0, MOST_SEEN);
            System.arraycopy(other.seenStrengths, 0, seenStrengths, 0, MOST_SEEN);
            System.arraycopy(other.seenCells, 0, seenCells, 0, MOST_SEEN);
            seen = other.seen;
            score = other.score;
            strokes = other.strokes;
            fouls = other.fouls;
        }

        void take(Stroke stroke) {
            table.copy(stroke.table);
            score += stroke.brings;
            strokes++;
            if (stroke.foul) fouls++;
        }

        void note(int ball, int direction, int strength, int cell) {
            if (seen < 0 || seen >= MOST_SEEN) return;
            seenBalls[seen] = ball;
            seenDirections[seen] = direction;
            seenStrengths[seen] = strength;
            seenCells[seen] = cell;
            seen++;
        }
    }

    /** A stroke played out on a table of its own, with what came of it. */
    private static final class Stroke {
        // A ball in motion loses power by every move and bounce, and no line has more than six to hit:
        // some sixty steps end any stroke.
        private static final int MOST_STEPS = 1000;

        private final Table table = new Table();
        private final Ball[] kinds;
        private int moves;
        private int bounces;
        private int potted;
        private int brings;
        private int firstHitDirection;
        private int firstHitPower;
        private boolean foul;

        Stroke(Ball[] kinds) {
            this.kinds = kinds;
        }

        void begin(Table from) {
            table.copy(from);
        }

        void shoot(int direction, int strength, int spin) {
            moves = 0;
            bounces = 0;
            potted = 0;
            firstHitDirection = NONE;
            firstHitPower = 0;
            roll(WHITE, direction, strength);
            boolean missed = firstHitDirection == NONE;
            if (spin != 0 && !missed && !isWhitePotted()) {
                roll(WHITE, spin == 1 ? firstHitDirection : firstHitDirection + 4 & 7, firstHitPower / 2);
            }
            foul = missed || isWhitePotted();
            brings = worthPotted() - (foul ? FOUL_COST : 0);
            if (isWhitePotted()) table.returnWhite();
        }

        int tell(int what) {
            switch (what) {
                case 0: return brings + BRINGS_BASE;
                case 1: return table.cellOf(WHITE);
                case 2: return potted;
                case 3: return foul ? 1 : 0;
                case 4: return moves;
                case 5: return bounces;
                default: return table.cellOf(what - 9);
            }
        }

        boolean hasPotted(int ball) {
            return (potted >> ball & 1) != 0;
        }

        // A ball that hits another stops, so one alone rolls at any time and one loop follows them all.
        private void roll(int ball, int direction, int power) {
            int roller = ball;
            int way = direction;
            int left = power;
            for (int step = 0; step < MOST_STEPS && left > 0; step++) {
                int row = table.cellOf(roller) / COLUMNS + Table.rowStep(way);
                int column = table.cellOf(roller) % COLUMNS + Table.columnStep(way);
                int next = COLUMNS * row + column;
                if (!isRow(row) || !isColumn(column)) {
                    boolean dies = kind(table.kindOf(roller)).stopsAtCushion();
                    if (!dies) bounces++;
                    way = turned(way, !isRow(row), !isColumn(column));
                    left = dies ? 0 : left - 1;
                } else if (table.ballIn(next) != NONE) {
                    left--;
                    if (roller == WHITE) noteWhiteHit(way, left);
                    roller = table.ballIn(next);
                    left = kind(table.kindOf(roller)).powerWhenHit(left);
                } else {
                    boolean falls = isPocket(next);
                    moves++;
                    left = falls ? 0 : left - 1;
                    table.lay(roller, falls ? NONE : next);
                    if (falls) notePotted(roller);
                }
            }
        }

        private void notePotted(int ball) {
            potted |= 1 << ball;
        }

        private void noteWhiteHit(int direction, int power) {
            if (firstHitDirection != NONE) return;
            firstHitDirection = direction;
            firstHitPower = power;
        }

        private int worthPotted() {
            int worth = 0;
            for (int ball = 1; ball <= MOST_BALLS && potted >> ball != 0; ball++) {
                if ((potted >> ball & 1) != 0) worth += table.worthOf(ball);
            }
            return worth;
        }

        private boolean isWhitePotted() {
            return (potted & 1) != 0;
        }

        private Ball kind(int number) {
            return kinds[number >= 0 && number < kinds.length ? number : 0];
        }

        private static int turned(int direction, boolean rows, boolean columns) {
            int way = direction;
            if (rows) way = 4 - way & 7;
            if (columns) way = -way & 7;
            return way;
        }
    }

    /** Tries all strokes, and keeps the one that is chosen. */
    private static final class Adviser {
        private static final int ALL_STROKES = DIRECTIONS * STRENGTHS * SPINS;

        private final Stroke first;
        private final Stroke second;
        private int chosen;
        private int value;

        Adviser(Stroke first, Stroke second) {
            this.first = first;
            this.second = second;
            this.chosen = NONE;
        }

        void chooseBest(Table table) {
            chosen = NONE;
            for (int number = 0; number < ALL_STROKES; number++) {
                tryStroke(table, number);
                if (chosen == NONE || first.brings > value) choose(number, first.brings);
            }
        }

        void choosePlan(Table table) {
            chosen = NONE;
            for (int number = 0; number < ALL_STROKES; number++) {
                tryStroke(table, number);
                int together = first.brings + bestReply();
                if (chosen == NONE || together > value) choose(number, together);
            }
        }

        void chooseSafe(Table table) {
            chosen = NONE;
            for (int number = 0; number < ALL_STROKES; number++) {
                tryStroke(table, number);
                if (first.foul) continue;
                int reply = bestReply();
                if (chosen == NONE || reply < value) choose(number, reply);
            }
        }

        int tell(int what) {
            if (chosen == NONE) return NONE;
            switch (what) {
                case 0: return value + BRINGS_BASE;
                case 1: return directionOf(chosen);
                case 2: return strengthOf(chosen);
                default: return spinOf(chosen);
            }
        }

        long cellsToPotFrom(Table table, int ball) {
            long cells = 0;
            for (int cell = 0; cell < CELLS; cell++) {
                int there = table.ballIn(cell);
                boolean mayLie = !isPocket(cell) && (there == NONE || there == WHITE);
                if (mayLie && canPotFrom(table, ball, cell)) cells |= 1L << cell;
            }
            return cells;
        }

        private boolean canPotFrom(Table table, int ball, int cell) {
            for (int number = 0; number < ALL_STROKES; number += SPINS) {
                first.begin(table);
                first.table.lay(WHITE, cell);
                first.shoot(directionOf(number), strengthOf(number), 0);
                if (first.hasPotted(ball) && !first.foul) return true;
            }
            return false;
        }

        private void tryStroke(Table table, int number) {
            first.begin(table);
            first.shoot(directionOf(number), strengthOf(number), spinOf(number));
        }

        private int bestReply() {
            int most = -FOUL_COST;
            for (int direction = 0; direction < DIRECTIONS; direction++) {
                for (int strength = 3; strength <= STRENGTHS; strength += 3) {
                    second.begin(first.table);
                    second.shoot(direction, strength, 0);
                    if (second.brings > most) most = second.brings;
                }
            }
            return most;
        }

        private void choose(int number, int worth) {
            chosen = number;
            value = worth;
        }

        private static int directionOf(int number) {
            return number / (STRENGTHS * SPINS);
        }

        private static int strengthOf(int number) {
            return number / SPINS % STRENGTHS + 1;
        }

        private static int spinOf(int number) {
            return number % SPINS;
        }
    }

    /** Of which kinds a ball can be, by what was seen of it, and which stroke would tell most. */
    private static final class Guesser {
        private final Stroke stroke;
        private final int[] ends = new int[KINDS];

        Guesser(Stroke stroke) {
            this.stroke = stroke;
        }

        int possibleKinds(Game game, int ball) {
            int possible = (1 << KINDS) - 1;
            for (int number = 0; number < game.seen && number < MOST_SEEN; number++) {
                if (game.seenBalls[number] != ball) continue;
                for (int kind = 0; kind < KINDS; kind++) {
                    int end = endAs(game.table, ball, kind, game.seenDirections[number], game.seenStrengths[number]);
                    if (end != game.seenCells[number]) possible &= ~(1 << kind);
                }
            }
            return possible;
        }

        int tellingDirection(Game game, int ball) {
            int possible = possibleKinds(game, ball);
            if (possible == 0) return NONE;
            int least = KINDS + 1;
            int chosen = NONE;
            for (int direction = 0; direction < DIRECTIONS; direction++) {
                int left = leftAtWorst(game.table, ball, direction, possible);
                if (left < least) {
                    least = left;
                    chosen = direction;
                }
            }
            return chosen;
        }

        private int leftAtWorst(Table table, int ball, int direction, int possible) {
            int worst = 0;
            for (int kind = 0; kind < KINDS; kind++) {
                if ((possible >> kind & 1) == 0) continue;
                ends[kind] = endAs(table, ball, kind, direction, TRY_STRENGTH);
                int alike = 0;
                for (int other = 0; other <= kind; other++) {
                    if ((possible >> other & 1) != 0 && ends[other] == ends[kind]) alike++;
                }
                worst = Math.max(worst, alike);
            }
            return worst;
        }

        private int endAs(Table table, int ball, int kind, int direction, int strength) {
            stroke.begin(table);
            stroke.table.setKind(ball, kind);
            stroke.shoot(direction, strength, 0);
            return stroke.table.cellOf(ball);
        }
    }
}
