import java.util.Random;

/** Promises 13 and 14: stroke, would. */
public final class StrokeTest {
    private static final Check check = new Check();

    public static void main(String[] args) {
        kindsThatAreHit();
        cushions();
        pots();
        spins();
        whiteThatIsHit();
        spotThatIsTaken();
        refusals();
        asOnPaper();
        check.end();
    }

    /** What would() tells for 0 to 5, and of BALL 1 where it lies. */
    private static void would(String text, int direction, int strength, int spin, int... due) {
        WhiteWanted x = Check.table(text);
        String call = text + ": would(" + direction + ", " + strength + ", " + spin + ", ";
        for (int what = 0; what <= 5; what++) {
            check.due(call + what + ")", x.would(direction, strength, spin, what), due[what]);
        }
        check.due(call + "10)", x.would(direction, strength, spin, 10), due[6]);
    }

    private static void kindsThatAreHit() {
        would("20;b122", 2, 9, 0, 100, 19, 0, 0, 7, 1, 26);
        would("20;h122", 2, 9, 0, 100, 19, 0, 0, 4, 0, 23);
        would("20;s122", 2, 9, 0, 100, 19, 0, 0, 2, 0, 21);
        would("20;l122", 2, 9, 0, 100, 19, 0, 0, 8, 1, 25);
        would("20;d122", 2, 9, 0, 100, 19, 0, 0, 7, 0, 26);
        would("20;b121", 2, 1, 0, 100, 18, 0, 0, 0, 0, 19);
        would("20;l121", 2, 1, 0, 100, 18, 0, 0, 1, 0, 20);
        would("20;b121,b122", 2, 5, 0, 100, 18, 0, 0, 3, 0, 19);
        check.due("the last of a row", Check.table("20;b121,b122").would(2, 5, 0, 11), 23);
        check.due("a ball that is not", Check.table("20;b121,b122").would(2, 5, 0, 15), Check.NONE);
    }

    private static void cushions() {
        would("01;b133", 7, 1, 0, 96, 1, 0, 1, 0, 1, 30);
        would("01;b133", 7, 3, 0, 96, 9, 0, 1, 1, 2, 30);
        would("01;b133", 7, 4, 0, 96, 19, 0, 1, 2, 2, 30);
        would("21;b133", 6, 3, 0, 96, 19, 0, 1, 2, 1, 30);
        would("11;b133", 0, 4, 0, 96, 19, 0, 1, 3, 1, 30);
        would("18;b133", 3, 2, 0, 96, 25, 0, 1, 1, 1, 30);
        would("16;b111", 2, 9, 0, 96, 11, 0, 1, 8, 1, 10);
        would("16;b111", 1, 9, 0, 96, 31, 0, 1, 6, 3, 10);
    }

    private static void pots() {
        would("22;b711", 7, 1, 0, 100, 20, 0, 0, 0, 0, 10);
        would("22;b711", 7, 2, 0, 107, 20, 2, 0, 1, 0, Check.NONE);
        WhiteWanted x = Check.table("22;b711,h333");
        check.due("stroke that pots", x.stroke(7, 3, 0), 107);
        check.due("score", x.count(3), 1007);
        check.due("lying", x.count(1), 1);
        check.due("worth lying", x.count(2), 3);
        check.due("one more", x.stroke(3, 9, 1), 99);
        check.due("white back on its spot", x.count(7), 20);
        check.due("score then", x.count(3), 1006);
        check.due("strokes", x.count(4), 2);
        check.due("fouls", x.count(5), 1);
        check.due("nothing to hit", x.stroke(2, 9, 1), 96);
        check.due("fouls then", x.count(5), 2);
    }

    private static void spins() {
        would("20;b122", 2, 9, 1, 100, 22, 0, 0, 10, 1, 26);
        would("20;b122", 2, 9, 2, 100, 19, 0, 0, 9, 2, 26);
        would("20;h122", 2, 9, 1, 100, 22, 0, 0, 7, 0, 23);
        would("22;b711", 7, 9, 1, 103, 20, 3, 1, 3, 0, Check.NONE);
        would("22;b711", 7, 2, 2, 107, 20, 2, 0, 1, 0, Check.NONE);
        would("22;b711", 7, 3, 2, 107, 30, 2, 0, 2, 0, Check.NONE);
        // what is hit by spin is hit: the stone that went one cell is pushed on
        would("20;s122", 2, 9, 1, 100, 20, 0, 0, 3, 0, 21);
        would("20;s121", 2, 9, 1, 100, 20, 0, 0, 4, 0, 21);
    }

    private static void whiteThatIsHit() {
        would("27;b128", 2, 9, 0, 100, 19, 0, 0, 6, 1, 26);
        would("27;b128", 2, 9, 1, 100, 23, 0, 0, 10, 1, 26);
        would("27;b128", 2, 9, 2, 100, 20, 0, 0, 9, 2, 26);
    }

    private static void spotThatIsTaken() {
        WhiteWanted x = Check.table("22;b111,b112");
        x.put(0, 16);
        check.due("back to the spot", x.would(1, 5, 0, 1), 20);
        x.put(1, 20);
        check.due("spot is taken", x.would(1, 5, 0, 1), 1);
        x.put(2, 1);
        check.due("the least is taken", x.would(1, 5, 0, 1), 2);
        check.due("potted", x.would(1, 5, 0, 2), 1);
        check.due("stroke", x.stroke(1, 5, 0), 96);
        check.due("white", x.cell(2), 0);
        check.due("spot", x.count(8), 20);
    }

    private static void refusals() {
        WhiteWanted x = Check.table("22;b711");
        WhiteWanted none = new WhiteWanted();
        int[][] wrong = {{-1, 1, 0}, {8, 1, 0}, {0, 0, 0}, {0, 10, 0}, {0, 1, -1}, {0, 1, 3}};
        for (int[] w : wrong) {
            check.due("stroke " + w[0] + w[1] + w[2], x.stroke(w[0], w[1], w[2]), Check.OUTSIDE);
            check.due("would " + w[0] + w[1] + w[2], x.would(w[0], w[1], w[2], 0), Check.OUTSIDE);
            check.due("stroke, no table", none.stroke(w[0], w[1], w[2]), Check.OUTSIDE);
        }
        for (int what : new int[] {-1, 6, 7, 8, 9, 16, Integer.MIN_VALUE, Integer.MAX_VALUE}) {
            check.due("would what " + what, x.would(7, 2, 0, what), Check.OUTSIDE);
            check.due("would what, no table " + what, none.would(7, 2, 0, what), Check.OUTSIDE);
        }
        check.due("no table", none.stroke(7, 2, 0), Check.STATE);
        check.due("no table, would", none.would(7, 2, 0, 0), Check.STATE);
        check.due("nothing changed", x.count(4), 0);
        x.would(7, 2, 0, 0);
        check.due("would changes nothing", x.cell(10), 1);
    }

    private static void asOnPaper() {
        Random random = new Random(1);
        for (int number = 0; number < 4000; number++) {
            String text = Check.randomText(random, 1 + random.nextInt(6));
            WhiteWanted x = Check.table(text);
            PaperTable paper = new PaperTable(text);
            for (int turn = 0; turn < 12; turn++) {
                int direction = random.nextInt(8), strength = 1 + random.nextInt(9), spin = random.nextInt(3);
                String call = text + " turn " + turn + ": " + direction + strength + spin + " what ";
                int[] told = new int[16];
                for (int what = 0; what < 16; what++) told[what] = x.would(direction, strength, spin, what);
                paper.stroke(direction, strength, spin);
                check.due(call + 0, told[0], paper.brings + 100);
                check.due(call + 1, told[1], paper.cell(0));
                check.due(call + 2, told[2], paper.pottedBits);
                check.due(call + 3, told[3], paper.foul ? 1 : 0);
                check.due(call + 4, told[4], paper.moves);
                check.due(call + 5, told[5], paper.bounces);
                for (int ball = 1; ball <= 6; ball++) check.due(call + (9 + ball), told[9 + ball], paper.cell(ball));
                check.due(call + "stroke", x.stroke(direction, strength, spin), paper.brings + 100);
            }
        }
    }
}
