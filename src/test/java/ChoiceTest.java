import java.util.Random;

/** Promises 15 to 18: best, plan, safe, wanted; each found a second time by stroke() and would(). */
public final class ChoiceTest {
    private static final Check check = new Check();

    public static void main(String[] args) {
        byHand();
        refusals();
        Random random = new Random(2);
        for (int number = 0; number < 60; number++) byTrial(Check.randomText(random, 1 + number % 6));
        check.end();
    }

    private static void byHand() {
        WhiteWanted x = Check.table("22;b711,b333");
        // struck low it comes back from the one and pots the other
        int[] best = {110, 3, 5, 2};
        int[] plan = {110, 3, 2, 0};
        for (int what = 0; what <= 3; what++) {
            check.due("best(" + what + ")", x.best(what), best[what]);
            check.due("plan(" + what + ")", x.plan(what), plan[what]);
        }
        x.lift(1);
        x.lift(2);
        int[] missed = {96, 0, 1, 0};
        for (int what = 0; what <= 3; what++) {
            check.due("best of fouls " + what, x.best(what), missed[what]);
            check.due("safe of fouls " + what, x.safe(what), Check.NONE);
        }
        check.due("plan of fouls", x.plan(0), 92);
        WhiteWanted y = Check.table("22;b711");
        int[] one = {107, 7, 2, 0};
        for (int what = 0; what <= 3; what++) check.due("best of one " + what, y.best(what), one[what]);
        check.due("wanted has the diagonal", y.wanted(1) >> 20 & 1, 1);
        check.due("not the ball's own cell", y.wanted(1) >> 10 & 1, 0);
        check.due("no pocket", y.wanted(1) & (1L | 1L << 4 | 1L << 8 | 1L << 36 | 1L << 40 | 1L << 44), 0);
    }

    private static void refusals() {
        WhiteWanted x = Check.table("22;b711,b333");
        WhiteWanted none = new WhiteWanted();
        for (int what : new int[] {-1, 4, Integer.MIN_VALUE, Integer.MAX_VALUE}) {
            check.due("best " + what, x.best(what), Check.OUTSIDE);
            check.due("plan " + what, x.plan(what), Check.OUTSIDE);
            check.due("safe " + what, x.safe(what), Check.OUTSIDE);
            check.due("best, no table " + what, none.best(what), Check.OUTSIDE);
            check.due("plan, no table " + what, none.plan(what), Check.OUTSIDE);
            check.due("safe, no table " + what, none.safe(what), Check.OUTSIDE);
        }
        check.due("best, no table", none.best(0), Check.STATE);
        check.due("plan, no table", none.plan(0), Check.STATE);
        check.due("safe, no table", none.safe(0), Check.STATE);
        check.due("none done", none.count(12) + none.count(13), 0);
        for (int number = 1; number <= 8; number++) {
            check.due("plan " + number, x.plan(0), 110);
            check.due("plans done", x.count(12), number);
        }
        check.due("ninth plan", x.plan(0), Check.STATE);
        check.due("ninth plan, wrong too", x.plan(4), Check.OUTSIDE);
        check.due("plans then", x.count(12), 8);
        for (int number = 1; number <= 8; number++) {
            check.due("safe " + number, x.safe(0) >= 96 ? 1 : 0, 1);
            check.due("safes done", x.count(13), number);
        }
        check.due("ninth safe", x.safe(1), Check.STATE);
        check.due("safes then", x.count(13), 8);
        check.due("best goes on", x.best(0), 110);
        for (int ball : Check.ODD) check.due("wanted " + ball, x.wanted(ball), Check.UNKNOWN);
        check.due("wanted(0)", x.wanted(0), Check.UNKNOWN);
        check.due("wanted(3)", x.wanted(3), Check.UNKNOWN);
        x.lift(1);
        check.due("wanted, off", x.wanted(1), Check.UNKNOWN);
        check.due("ball(1, 5), off", x.ball(1, 5), 0);
        check.due("wanted, no table", none.wanted(1), Check.UNKNOWN);
    }

    private static void byTrial(String text) {
        WhiteWanted x = Check.table(text);
        int[] best = {-999, 0, 0, 0}, plan = {-999, 0, 0, 0}, safe = {999, 0, 0, 0};
        for (int direction = 0; direction < 8; direction++) {
            for (int strength = 1; strength <= 9; strength++) {
                for (int spin = 0; spin < 3; spin++) {
                    WhiteWanted y = Check.table(text);
                    int brings = y.stroke(direction, strength, spin);
                    int reply = bestReply(y);
                    if (brings > best[0]) best = new int[] {brings, direction, strength, spin};
                    if (brings + reply - 100 > plan[0]) plan = new int[] {brings + reply - 100, direction, strength, spin};
                    if (y.count(5) == 0 && reply < safe[0]) safe = new int[] {reply, direction, strength, spin};
                }
            }
        }
        for (int what = 0; what <= 3; what++) {
            check.due(text + " best(" + what + ")", x.best(what), best[what]);
            check.due(text + " plan(" + what + ")", x.plan(what), plan[what]);
            check.due(text + " safe(" + what + ")", x.safe(what), safe[0] == 999 ? Check.NONE : safe[what]);
        }
        for (int ball = 1; ball <= x.count(0); ball++) {
            long cells = cellsByTrial(text, ball);
            check.due(text + " wanted(" + ball + ")", x.wanted(ball), cells);
            check.due(text + " ball(" + ball + ", 5)", x.ball(ball, 5), Long.bitCount(cells));
        }
        check.due(text + " white", x.ball(0, 2), Check.table(text).ball(0, 2));
    }

    private static int bestReply(WhiteWanted x) {
        int most = -999;
        for (int direction = 0; direction < 8; direction++) {
            for (int strength : new int[] {3, 6, 9}) most = Math.max(most, x.would(direction, strength, 0, 0));
        }
        return most;
    }

    private static long cellsByTrial(String text, int ball) {
        long cells = 0;
        for (int cell = 0; cell < 45; cell++) {
            // one for each cell: an object answers 512 calls
            WhiteWanted x = Check.table(text);
            if (x.put(0, cell) < 0) continue;
            for (int direction = 0; direction < 8; direction++) {
                for (int strength = 1; strength <= 9; strength++) {
                    boolean potted = (x.would(direction, strength, 0, 2) >> ball & 1) == 1;
                    if (potted && x.would(direction, strength, 0, 3) == 0) cells |= 1L << cell;
                }
            }
        }
        return cells;
    }
}
