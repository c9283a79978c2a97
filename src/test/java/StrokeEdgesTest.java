import java.util.function.Supplier;

/** The edges of STROKES and of promises 13 and 14, a sentence of the document to each test. */
public final class StrokeEdgesTest {
    private static final Check check = new Check();
    private static final Supplier<WhiteWanted> BUSY = Check::busy;

    public static void main(String[] args) {
        directions();
        powerAboveNone();
        bounceOfTheLastPower();
        bounceTurnsWhatLeadsOff();
        deadAtTheCushion();
        hitWithNothing();
        hitByStrengthAndKind();
        theWhiteIsPlain();
        everyPocket();
        pocketOnTheWay();
        pottedStayOff();
        spinOfHalfRoundedDown();
        spinOfWhatItWasHitWith();
        spinInTheDirectionOfTheFirstHit();
        noSpinWithoutAHit();
        noMoreSpin();
        fouls();
        foulThatPots();
        spotThatIsFree();
        spotThatIsNotFree();
        spotTakenByTheStroke();
        noBallLeft();
        potsAsBits();
        ballsThatAreNot();
        refusals();
        check.end();
    }

    /** What would() tells for 0 to 5, then where BALL 1 lies, BALL 2, and so on; the same on a twin is not changed. */
    private static void would(String text, int direction, int strength, int spin, int... due) {
        for (int number = 0; number < due.length; number++) {
            int what = number < 6 ? number : number + 4;
            check.tells(text + ": would(" + direction + ", " + strength + ", " + spin + ", " + what + ")",
                () -> Check.table(text), x -> x.would(direction, strength, spin, what), due[number]);
        }
        WhiteWanted x = Check.table(text);
        String call = text + ": stroke(" + direction + ", " + strength + ", " + spin + ")";
        check.due(call, x.stroke(direction, strength, spin), due[0]);
        check.due(call + " white", x.count(7), due[1]);
        check.due(call + " fouls", x.count(5), due[3]);
        check.due(call + " score", x.count(3), 900 + due[0]);
        for (int ball = 1; ball + 5 < due.length; ball++) check.due(call + " ball " + ball, x.ball(ball, 2), due[ball + 5]);
    }

    /** "DIRECTIONS: 0 to the row above, then clockwise by eighths" */
    private static void directions() {
        int[] next = {11, 12, 21, 30, 29, 28, 19, 10};
        for (int direction = 0; direction < 8; direction++) {
            would("22;b145", direction, 1, 0, 96, next[direction], 0, 1, 1, 0, 41);
        }
    }

    /** "As long as that is above 0", STRENGTH (1 to 9). */
    private static void powerAboveNone() {
        for (int strength = 1; strength <= 8; strength++) {
            would("20;b133", 2, strength, 0, 96, 18 + strength, 0, 1, strength, 0, 30);
        }
        would("20;b133", 2, 9, 0, 96, 26, 0, 1, 8, 1, 30);
    }

    /** "it BOUNCES: it stays, POWER is 1 less" */
    private static void bounceOfTheLastPower() {
        would("21;b133", 6, 1, 0, 96, 18, 0, 1, 1, 0, 30);
        would("21;b133", 6, 2, 0, 96, 18, 0, 1, 1, 1, 30);
        would("21;b133", 6, 3, 0, 96, 19, 0, 1, 2, 1, 30);
        would("20;b133", 6, 1, 0, 96, 18, 0, 1, 0, 1, 30);
        // up and down between the cushions: twice it bounces
        would("02;b136", 0, 9, 0, 96, 11, 0, 1, 7, 2, 33);
    }

    /** "what of its DIRECTION leads off is turned about (rows, columns, or both)": both only in corners, which are POCKETS. */
    private static void bounceTurnsWhatLeadsOff() {
        String[] tables = {"02;b136", "42;b136", "20;b136", "28;b133"};
        int[] whites = {2, 38, 18, 26};
        int[][] leadOff = {{0, 1, 7}, {4, 3, 5}, {6, 5, 7}, {2, 1, 3}};
        int[][] steps = {{9, 10, 8}, {-9, -8, -10}, {1, 10, -8}, {-1, -10, 8}};
        for (int side = 0; side < 4; side++) {
            for (int way = 0; way < 3; way++) {
                int direction = leadOff[side][way], ball = side == 3 ? 30 : 33;
                would(tables[side], direction, 1, 0, 96, whites[side], 0, 1, 0, 1, ball);
                would(tables[side], direction, 2, 0, 96, whites[side] + steps[side][way], 0, 1, 1, 1, ball);
            }
        }
    }

    /** "a DEAD one stops instead" */
    private static void deadAtTheCushion() {
        would("27;d128", 2, 9, 0, 100, 25, 0, 0, 0, 0, 26);
        would("25;d127", 2, 9, 0, 100, 24, 0, 0, 2, 0, 26);
        would("22;d112", 0, 9, 0, 100, 20, 0, 0, 1, 0, 2);
        would("21;d112", 1, 9, 0, 100, 19, 0, 0, 1, 0, 3);
        // one that is dead hits on as any, and is potted as any
        would("24;d125,b126", 2, 5, 0, 100, 22, 0, 0, 2, 1, 23, 26);
        would("22;d711", 7, 9, 0, 107, 20, 2, 0, 1, 0, Check.NONE);
    }

    /** "that one is HIT .. with 1 less than the POWER": of a POWER of 1 it is HIT with nothing, and is HIT all the same. */
    private static void hitWithNothing() {
        for (String kind : new String[] {"b", "h", "d", "s"}) {
            would("20;" + kind + "121", 2, 1, 0, 100, 18, 0, 0, 0, 0, 19);
            would("20;" + kind + "121", 2, 1, 1, 100, 18, 0, 0, 0, 0, 19);
            would("20;" + kind + "121", 2, 1, 2, 100, 18, 0, 0, 0, 0, 19);
        }
        would("20;l121", 2, 1, 0, 100, 18, 0, 0, 1, 0, 20);
        would("20;b123", 2, 3, 0, 100, 20, 0, 0, 2, 0, 21);
        would("20;b123", 2, 2, 0, 96, 20, 0, 1, 2, 0, 21);
        would("20;b121,b122", 2, 2, 0, 100, 18, 0, 0, 0, 0, 19, 20);
        would("20;b121,b122", 2, 3, 0, 100, 18, 0, 0, 1, 0, 19, 21);
    }

    /** "a HEAVY one with half of it, rounded down; a STONE with half of what a HEAVY one would, rounded down; a LIGHT one with 1 more" */
    private static void hitByStrengthAndKind() {
        int[][] ends = {
            {19, 20, 21, 22, 23, 24, 25, 26, 26},
            {19, 19, 20, 20, 21, 21, 22, 22, 23},
            {20, 21, 22, 23, 24, 25, 26, 26, 25},
            {19, 20, 21, 22, 23, 24, 25, 26, 26},
            {19, 19, 19, 19, 20, 20, 20, 20, 21}};
        for (int kind = 0; kind <= 4; kind++) {
            for (int strength = 1; strength <= 9; strength++) {
                int hit = strength, due = ends[kind][strength - 1];
                String text = "20;" + "bhlds".charAt(kind) + "121";
                check.tells(text + " by " + strength, () -> Check.table(text), x -> x.would(2, hit, 0, 10), due);
            }
        }
    }

    /** "THE WHITE is a plain BALL": it ROLLS with as much as it is HIT with. */
    private static void theWhiteIsPlain() {
        // hit with 8, off the cushion with 7, the white is hit with 6
        would("27;b128", 2, 9, 0, 100, 19, 0, 0, 6, 1, 26);
        would("27;b128", 2, 3, 0, 100, 25, 0, 0, 0, 1, 26);
        would("27;b128", 2, 4, 0, 100, 24, 0, 0, 1, 1, 26);
    }

    /** "if it is a POCKET it is POTTED" */
    private static void everyPocket() {
        String[] texts = {"22;b711", "24;b714", "26;b717", "22;b731", "24;b734", "26;b737"};
        int[] ways = {7, 0, 1, 5, 4, 3};
        for (int pocket = 0; pocket < 6; pocket++) {
            int white = 20 + pocket % 3 * 2;
            would(texts[pocket], ways[pocket], 2, 0, 107, white, 2, 0, 1, 0, Check.NONE);
            check.due("the white itself", pottedWhite(white, ways[pocket]), 96);
        }
    }

    private static int pottedWhite(int white, int direction) {
        WhiteWanted x = Check.table("1" + white % 9 + ";b121");
        x.lift(1);
        x.put(0, white);
        check.due("the white from " + white, x.would(direction, 2, 0, 2), 1);
        return x.stroke(direction, 2, 0);
    }

    /** "it is POTTED, and stops": with POWER left, and in a POCKET that lies on its way. */
    private static void pocketOnTheWay() {
        would("01;b602", 2, 3, 0, 106, 1, 2, 0, 2, 0, Check.NONE);
        would("01;b602", 2, 9, 0, 106, 1, 2, 0, 2, 0, Check.NONE);
        would("01;b602", 2, 2, 0, 100, 1, 0, 0, 1, 0, 3);
        would("01;b602,b105", 2, 9, 0, 106, 1, 2, 0, 2, 0, Check.NONE, 5);
        would("03;b105", 2, 9, 0, 96, 3, 1, 1, 1, 0, 5);
        would("34;b124,b714", 0, 9, 0, 107, 31, 4, 0, 1, 0, 22, Check.NONE);
    }

    /** "POTTED BALLS stay off the TABLE." */
    private static void pottedStayOff() {
        WhiteWanted x = Check.table("22;b711,b145");
        x.stroke(7, 2, 0);
        check.due("nothing lies in its way", x.would(7, 2, 0, 2), 1);
        check.due("it is potted once", x.stroke(7, 2, 0), 96);
        check.due("it is off", x.ball(1, 2), Check.NONE);
        check.due("where it lay is free", x.cell(10), Check.NONE);
        check.due("the pocket tells of none", x.cell(0), -2);
        check.due("its worth is gone", x.count(2), 1);
    }

    /** "0 it lies; 1 it ROLLS on .. with half of the POWER .. rounded down; 2 .. just the other way about" */
    private static void spinOfHalfRoundedDown() {
        int[] hits = {20, 21, 22, 23, 24};
        int[] on = {19, 19, 20, 20, 21};
        int[] back = {19, 19, 18, 18, 18};
        for (int strength = 2; strength <= 6; strength++) {
            int stays = hits[strength - 2], bounced = strength == 6 ? 1 : 0;
            int rolls = (strength - 2) / 2, moved = strength - 1;
            would("20;b122", 2, strength, 0, 100, 19, 0, 0, moved, 0, stays);
            would("20;b122", 2, strength, 1, 100, on[strength - 2], 0, 0, moved + rolls, 0, stays);
            would("20;b122", 2, strength, 2, 100, back[strength - 2], 0, 0, moved + rolls - bounced, bounced, stays);
        }
    }

    /** "(of what that one was HIT with)": not of what it ROLLS with. */
    private static void spinOfWhatItWasHitWith() {
        would("20;h122", 2, 6, 1, 100, 21, 0, 0, 5, 0, 22);
        would("20;s122", 2, 6, 1, 100, 20, 0, 0, 3, 0, 21);
        would("20;l122", 2, 5, 1, 100, 20, 0, 0, 6, 0, 24);
        would("20;l122", 2, 5, 2, 100, 18, 0, 0, 6, 0, 24);
    }

    /** "in the DIRECTION that it had when it HIT first": behind a BOUNCE not the one that it was struck in. */
    private static void spinInTheDirectionOfTheFirstHit() {
        would("26;b125", 2, 9, 0, 100, 24, 0, 0, 7, 1, 20);
        would("26;b125", 2, 9, 1, 100, 23, 0, 0, 8, 1, 20);
        would("26;b125", 2, 9, 2, 100, 25, 0, 0, 8, 1, 20);
        // the white is hit back by the one, and hits the other: what counts is the first, with 8
        would("27;b128,b126", 2, 9, 0, 100, 25, 0, 0, 5, 1, 26, 19);
        would("27;b128,b126", 2, 9, 2, 100, 21, 0, 0, 9, 1, 26, 19);
    }

    /** "if it has HIT a BALL itself": else it has no SPIN. */
    private static void noSpinWithoutAHit() {
        for (int spin = 0; spin <= 2; spin++) {
            would("20;b133", 2, 5, spin, 96, 23, 0, 1, 5, 0, 30);
            // potted, it has no spin either
            would("22;b145", 7, 9, spin, 96, 20, 1, 1, 2, 0, 41);
        }
    }

    /** "What it HITS then has no more SPIN." */
    private static void noMoreSpin() {
        would("24;d125,b123", 2, 9, 2, 100, 22, 0, 0, 6, 0, 26, 18);
        would("24;d125,l123", 2, 9, 2, 100, 22, 0, 0, 6, 1, 26, 18);
        would("24;d125,h123", 2, 9, 2, 100, 22, 0, 0, 4, 0, 26, 20);
        would("24;d125,s123", 2, 9, 2, 100, 22, 0, 0, 3, 0, 26, 21);
    }

    /** "A STROKE is a FOUL, if THE WHITE is POTTED, or HITS no BALL itself (before SPIN)." */
    private static void fouls() {
        would("22;b145", 7, 2, 0, 96, 20, 1, 1, 2, 0, 41);
        would("22;b145", 7, 1, 0, 96, 10, 0, 1, 1, 0, 41);
        // by spin it comes back into a pocket; with half of 1 it does not
        would("33;h122", 7, 3, 1, 100, 20, 0, 0, 2, 0, 10);
        would("33;h122", 7, 3, 2, 96, 30, 1, 1, 2, 0, 10);
        would("33;b122", 7, 2, 2, 100, 30, 0, 0, 1, 0, 10);
    }

    /** "It brings the WORTH of all BALLS that are POTTED, 4 less for a FOUL." */
    private static void foulThatPots() {
        would("22;b711", 7, 9, 1, 103, 20, 3, 1, 3, 0, Check.NONE);
        would("22;b111", 7, 9, 1, 97, 20, 3, 1, 3, 0, Check.NONE);
        would("22;b411", 7, 9, 1, 100, 20, 3, 1, 3, 0, Check.NONE);
        // struck low it comes back from the one and pots the other
        would("22;b711,b333", 3, 5, 2, 110, 20, 6, 0, 2, 0, Check.NONE, Check.NONE);
        would("22;b711,b333", 3, 4, 2, 103, 20, 4, 0, 1, 0, 10, Check.NONE);
    }

    /** "THE WHITE that was POTTED comes to its SPOT, the CELL where the text told it" */
    private static void spotThatIsFree() {
        WhiteWanted x = Check.table("25;b145");
        x.put(0, 10);
        check.due("the spot, not where it was struck", x.would(7, 1, 0, 1), 23);
        check.due("potted", x.stroke(7, 1, 0), 96);
        check.due("on the spot", x.cell(23), 0);
        check.due("not where it was struck", x.cell(10), Check.NONE);
        WhiteWanted y = Check.table("22;b145");
        check.due("the spot that it was struck from", y.would(7, 2, 0, 1), 20);
    }

    /** "if that is not free, to the least CELL that is free, and no POCKET" */
    private static void spotThatIsNotFree() {
        int[] cells = {25, 1, 2, 3, 5, 6};
        int[] whites = {1, 2, 3, 5, 6, 7};
        for (int balls = 1; balls <= 6; balls++) {
            WhiteWanted x = Check.table("27;b121,b122,b123,b124,b125,b126");
            x.put(0, 37);
            for (int ball = 1; ball <= balls; ball++) x.put(ball, cells[ball - 1]);
            check.due("with " + balls, x.would(6, 1, 0, 1), whites[balls - 1]);
            check.due("potted", x.stroke(6, 1, 0), 96);
            check.due("the white lies", x.ball(0, 2), whites[balls - 1]);
            check.due("the spot stays", x.count(8), 25);
        }
    }

    /** "if that is not free": also by a BALL that came there by the same STROKE. */
    private static void spotTakenByTheStroke() {
        WhiteWanted x = Check.table("11;h122");
        x.put(0, 30);
        check.due("not yet by spin 0", x.would(7, 3, 0, 1), 30);
        check.due("the least cell", x.would(7, 3, 2, 1), 1);
        check.due("stroke", x.stroke(7, 3, 2), 96);
        check.due("the ball on the spot", x.cell(10), 1);
        check.due("the white", x.cell(1), 0);
    }

    /** STROKES when all BALLS are off: FOULS, each. */
    private static void noBallLeft() {
        WhiteWanted x = Check.table("22;b711");
        x.lift(1);
        for (int direction = 0; direction < 8; direction++) {
            check.due("direction " + direction, x.would(direction, 9, 1, 0), 96);
        }
        for (int strokes = 1; strokes <= 30; strokes++) {
            check.due("stroke", x.stroke(strokes % 8, 9, 2), 96);
            check.due("strokes", x.count(4), strokes);
            check.due("fouls", x.count(5), strokes);
            check.due("score", x.count(3), 1000 - 4 * strokes);
        }
    }

    /** "2 which BALLS are POTTED, as bits (1: THE WHITE)" */
    private static void potsAsBits() {
        WhiteWanted x = Check.table("22;b145,b146,b147,b142,b143,b711");
        check.due("ball 6", x.would(7, 2, 0, 2), 64);
        check.due("ball 6 and the white", x.would(7, 9, 1, 2), 65);
        check.due("none", x.would(7, 1, 0, 2), 0);
        check.due("stroke", x.stroke(7, 2, 0), 107);
        check.due("the white alone: ball 6 is off", x.would(7, 2, 0, 2), 1);
    }

    /** "10 to 15 where BALL 1 to 6 lies then (NONE: off, or there is none such)" */
    private static void ballsThatAreNot() {
        for (int what = 10; what <= 15; what++) {
            int asked = what, due = what == 10 ? 10 : what == 11 ? 41 : Check.NONE;
            check.tells("would " + what, () -> Check.table("22;b711,s345"), x -> x.would(0, 1, 0, asked), due);
        }
        check.tells("potted by it", () -> Check.table("22;b711"), x -> x.would(7, 2, 0, 10), Check.NONE);
        check.tells("off before", BUSY, x -> x.would(0, 1, 0, 11), Check.NONE);
        WhiteWanted six = Check.table("20;b121,h122,l123,d124,s125,b126");
        check.due("the sixth", six.would(4, 1, 0, 15), 24);
    }

    /** "OUTSIDE: direction (0 to 7), strength (1 to 9), spin (0 to 2); STATE: no TABLE." and what of would(). */
    private static void refusals() {
        int least = Integer.MIN_VALUE, most = Integer.MAX_VALUE;
        int[][] wrong = {{-1, 1, 0}, {8, 1, 0}, {least, 1, 0}, {most, 1, 0}, {0, 0, 0}, {0, 10, 0}, {0, -1, 0},
            {0, least, 0}, {0, most, 0}, {0, 1, -1}, {0, 1, 3}, {0, 1, least}, {0, 1, most}};
        for (int[] w : wrong) {
            String call = w[0] + ", " + w[1] + ", " + w[2] + ")";
            check.refused("stroke(" + call, BUSY, x -> x.stroke(w[0], w[1], w[2]), Check.OUTSIDE);
            check.refused("would(" + call, BUSY, x -> x.would(w[0], w[1], w[2], 0), Check.OUTSIDE);
            check.refused("new stroke(" + call, WhiteWanted::new, x -> x.stroke(w[0], w[1], w[2]), Check.OUTSIDE);
            check.refused("new would(" + call, WhiteWanted::new, x -> x.would(w[0], w[1], w[2], 0), Check.OUTSIDE);
        }
        for (int what : new int[] {-1, 6, 7, 8, 9, 16, least, most}) {
            check.refused("would " + what, BUSY, x -> x.would(7, 9, 2, what), Check.OUTSIDE);
            check.refused("new would " + what, WhiteWanted::new, x -> x.would(7, 9, 2, what), Check.OUTSIDE);
        }
        check.refused("new stroke", WhiteWanted::new, x -> x.stroke(7, 9, 2), Check.STATE);
        check.refused("new would", WhiteWanted::new, x -> x.would(7, 9, 2, 15), Check.STATE);
        for (int[] right : new int[][] {{0, 1, 0}, {7, 9, 2}}) {
            int would = Check.busy().would(right[0], right[1], right[2], 0);
            check.due("the edges are in", Check.busy().stroke(right[0], right[1], right[2]), would);
        }
    }
}
