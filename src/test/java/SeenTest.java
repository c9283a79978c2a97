import java.util.Random;

/** Promises 19 to 21 and KINDS and TRY of promise 6: see, forget, frames. */
public final class SeenTest {
    private static final Check check = new Check();

    public static void main(String[] args) {
        byHand();
        refusals();
        Random random = new Random(3);
        for (int number = 0; number < 300; number++) kindsByTrial(random, Check.randomText(random, 1 + number % 6));
        frames();
        for (int number = 0; number < 200; number++) framesByTrial(random, Check.randomText(random, 1 + number % 6));
        check.end();
    }

    private static void byHand() {
        // of strength 9 along the row: a plain ball and a dead one end at 26, heavy 23, light 25, stone 21
        int[] ends = {26, 23, 25, 21, 30, Check.NONE};
        int[] kinds = {1 | 8, 2, 4, 16, 0, 0};
        for (int number = 0; number < ends.length; number++) {
            WhiteWanted x = Check.table("20;b122");
            check.due("see", x.see(1, 2, 9, ends[number]), 1);
            check.due("kinds at " + ends[number], x.ball(1, 3), kinds[number]);
            check.due("try at " + ends[number], x.ball(1, 4), kinds[number] == 0 ? Check.NONE : 0);
            check.due("count(9)", x.count(9), 1);
        }
        // strength 6 in direction 2 tells heavy and stone from the rest; all other directions miss
        WhiteWanted x = Check.table("20;b122,b733");
        check.due("try", x.ball(1, 4), 2);
        x.see(2, 0, 1, 5);
        check.due("seen of another", x.ball(1, 3), 31);
        check.due("not so of it", x.ball(2, 3), 0);
        check.due("forget", x.forget(), 1);
        check.due("forget again", x.forget(), 0);
        check.due("kinds then", x.ball(2, 3), 31);
        WhiteWanted y = Check.table("22;b711");
        y.see(1, 7, 2, Check.NONE);
        check.due("potted: not heavy, not stone", y.ball(1, 3), 1 | 4 | 8);
        y.see(1, 7, 1, Check.NONE);
        check.due("potted by less: light", y.ball(1, 3), 4);
        y.put(0, 30);
        check.due("on the table as it is", y.ball(1, 3), 0);
    }

    private static void refusals() {
        WhiteWanted x = Check.table("20;b122");
        check.due("see the white", x.see(0, 2, 9, 26), Check.UNKNOWN);
        check.due("see ball 2", x.see(2, 2, 9, 26), Check.UNKNOWN);
        check.due("see cell 45", x.see(1, 2, 9, 45), Check.UNKNOWN);
        check.due("see cell -2", x.see(1, 9, 0, -2), Check.UNKNOWN);
        check.due("see direction 8", x.see(1, 8, 9, 26), Check.OUTSIDE);
        check.due("see direction -1", x.see(1, -1, 9, 26), Check.OUTSIDE);
        check.due("see strength 0", x.see(1, 2, 0, 26), Check.OUTSIDE);
        check.due("see strength 10", x.see(1, 2, 10, 26), Check.OUTSIDE);
        check.due("nothing seen", x.count(9), 0);
        for (int number = 1; number <= 6; number++) check.due("see " + number, x.see(1, 2, 9, 0), number);
        check.due("see 7", x.see(1, 2, 9, 26), Check.FULL);
        check.due("see 7, wrong too", x.see(1, 8, 9, 26), Check.OUTSIDE);
        check.due("seen", x.count(9), 6);
        check.due("forget", x.forget(), 6);
        check.due("see then", x.see(1, 2, 9, 26), 1);
        check.due("see, no table", new WhiteWanted().see(1, 2, 9, 26), Check.UNKNOWN);
    }

    private static void kindsByTrial(Random random, String text) {
        WhiteWanted x = Check.table(text);
        int balls = x.count(0), ball = 1 + random.nextInt(balls), was = x.ball(ball, 0);
        int possible = 31;
        for (int number = 0; number < random.nextInt(4); number++) {
            int direction = random.nextInt(8), strength = 1 + random.nextInt(9);
            WhiteWanted y = Check.table(text);
            y.change(ball, random.nextInt(5));
            int end = y.would(direction, strength, 0, 9 + ball);
            x.see(ball, direction, strength, end);
            for (int kind = 0; kind < 5; kind++) {
                y.change(ball, kind);
                if (y.would(direction, strength, 0, 9 + ball) != end) possible &= ~(1 << kind);
            }
        }
        check.due(text + " kinds of " + ball, x.ball(ball, 3), possible);
        check.due(text + " try for " + ball, x.ball(ball, 4), tryByTrial(text, ball, possible));
        check.due(text + " kind of " + ball, x.ball(ball, 0), was);
    }

    private static int tryByTrial(String text, int ball, int possible) {
        WhiteWanted y = Check.table(text);
        int found = Check.NONE, least = 99;
        for (int direction = 0; direction < 8 && possible != 0; direction++) {
            int[] left = new int[46];
            int worst = 0;
            for (int kind = 0; kind < 5; kind++) {
                if ((possible >> kind & 1) == 0) continue;
                y.change(ball, kind);
                int end = y.would(direction, 6, 0, 9 + ball) + 1;
                worst = Math.max(worst, ++left[end]);
            }
            if (worst < least) {
                least = worst;
                found = direction;
            }
        }
        return found;
    }

    private static void frames() {
        WhiteWanted x = Check.table("22;b711");
        WhiteWanted none = new WhiteWanted();
        int[][] wrong = {{0, 1, 0}, {61, 1, 0}, {-1, 1, 0}, {1, -1, 0}, {1, 1, -1}, {1, 1, 3}};
        for (int[] w : wrong) {
            check.due("frames " + w[0] + w[1] + w[2], x.frames(w[0], w[1], w[2]), Check.OUTSIDE);
            check.due("frames, no table", none.frames(w[0], w[1], w[2]), Check.OUTSIDE);
        }
        check.due("frames, no table", none.frames(1, 1, 0), Check.STATE);
        check.due("seed of 0", x.frames(1, 0, 2), 654583775);
        x.lift(1);
        check.due("sixty fouls", x.frames(60, Integer.MAX_VALUE, 0), 760);
        check.due("no balls", x.frames(60, Integer.MAX_VALUE, 1), 0);
        check.due("no strokes", x.count(4), 0);
    }

    private static void framesByTrial(Random random, String text) {
        WhiteWanted x = Check.table(text), y = Check.table(text);
        int strokes = 1 + random.nextInt(60), seed = random.nextInt() & Integer.MAX_VALUE;
        long next = seed;
        int together = 1000;
        for (int number = 0; number < strokes; number++) {
            int[] drawn = new int[3];
            for (int draw = 0; draw < 3; draw++) {
                next = (1103515245L * next + 12345) % (1L << 31);
                drawn[draw] = (int) (next / 65536 % new int[] {8, 9, 3}[draw]);
            }
            together += y.stroke(drawn[0], drawn[1] + 1, drawn[2]) - 100;
        }
        String call = text + " frames(" + strokes + ", " + seed + ", ";
        check.due(call + "0)", x.frames(strokes, seed, 0), together);
        check.due(call + "1)", x.frames(strokes, seed, 1), y.count(1));
        check.due(call + "2)", x.frames(strokes, seed, 2), next);
        check.due(call + "score", y.count(3), together);
        check.due(call + "untouched", x.digest(), Check.table(text).digest());
    }
}
