import java.util.function.Supplier;

/** The edges of promises 6 to 12, a sentence of the document to each test. */
public final class TableEdgesTest {
    private static final Check check = new Check();
    private static final int[] NO_BALLS = {-1, 5, 6, 7, Integer.MIN_VALUE, Integer.MAX_VALUE};
    private static final int[] NO_KINDS = {-1, 5, Integer.MIN_VALUE, Integer.MAX_VALUE};
    private static final Supplier<WhiteWanted> BUSY = Check::busy;
    private static final Supplier<WhiteWanted> POTTED = TableEdgesTest::potted;

    public static void main(String[] args) {
        whatOfABall();
        theWhite();
        aPottedBall();
        castsOfAllKinds();
        castsThatNameNothing();
        cellsOfTheTable();
        sightAtTheCushion();
        sightFromEndToEnd();
        sightWithoutBounce();
        sightOverAPocket();
        sightOfNoDirection();
        putInEveryCell();
        putBack();
        putThatNamesNothing();
        liftOfOneThatIsOff();
        liftThatNamesNothing();
        changeToEveryKind();
        changeThatNamesNothing();
        check.end();
    }

    /** BALL 1 is POTTED, BALL 2 lies. */
    private static WhiteWanted potted() {
        WhiteWanted x = Check.table("22;b711,s345");
        x.stroke(7, 2, 0);
        return x;
    }

    /** "what = 0 KIND .. 5", "UNKNOWN; OUTSIDE." */
    private static void whatOfABall() {
        for (int ball : NO_BALLS) {
            check.refused("ball(" + ball + ", 0)", BUSY, x -> x.ball(ball, 0), Check.UNKNOWN);
            check.refused("ball(" + ball + ", 6)", BUSY, x -> x.ball(ball, 6), Check.UNKNOWN);
        }
        for (int what : new int[] {-1, 6, Integer.MIN_VALUE, Integer.MAX_VALUE}) {
            check.refused("ball(0, " + what + ")", BUSY, x -> x.ball(0, what), Check.OUTSIDE);
            check.refused("ball(4, " + what + ")", BUSY, x -> x.ball(4, what), Check.OUTSIDE);
        }
        check.tells("the first ball", BUSY, x -> x.ball(1, 1), 7);
        check.tells("the last ball", BUSY, x -> x.ball(4, 0), 3);
        check.tells("kinds, nothing seen", BUSY, x -> x.ball(2, 3), 31);
    }

    /** "1 WORTH (0: THE WHITE)", "3 KINDS .. (THE WHITE: 1), 4 TRY (.. THE WHITE: NONE), 5 .. (0: THE WHITE" */
    private static void theWhite() {
        int[] due = {0, 0, 20, 1, Check.NONE, 0};
        for (int what = 0; what <= 5; what++) {
            int asked = what;
            check.tells("the white, " + what, POTTED, x -> x.ball(0, asked), due[what]);
        }
    }

    /** "2 in which CELL it lies (NONE: POTTED)", "5 .. (0: .. or it is POTTED)" */
    private static void aPottedBall() {
        int[] due = {0, 7, Check.NONE, 31, 0, 0};
        for (int what = 0; what <= 5; what++) {
            int asked = what;
            check.tells("one that is potted, " + what, POTTED, x -> x.ball(1, asked), due[what]);
        }
    }

    /** "NONE: it is none such (the cast fails)", "All are BALLS; a STONE is a HEAVY one, too. THE WHITE is a plain BALL." */
    private static void castsOfAllKinds() {
        String[] fits = {"b", "b", "bh", "bl", "bd", "bhs"};
        for (int ball = 0; ball <= 5; ball++) {
            for (int kind = 0; kind <= 4; kind++) {
                int number = ball, asked = kind;
                boolean such = fits[ball].indexOf("bhlds".charAt(kind)) >= 0;
                check.tells("as(" + ball + ", " + kind + ")", () -> Check.table("22;b111,h112,l113,d114,s115"),
                    x -> x.as(number, asked), such ? ball : Check.NONE);
            }
        }
        check.tells("one that is off", BUSY, x -> x.as(2, 1), 2);
        check.tells("one that was changed to heavy", BUSY, x -> x.as(3, 1), 3);
        check.tells("and is light no more", BUSY, x -> x.as(3, 2), Check.NONE);
    }

    /** as(): "UNKNOWN; OUTSIDE." */
    private static void castsThatNameNothing() {
        for (int ball : NO_BALLS) {
            check.refused("as(" + ball + ", 0)", BUSY, x -> x.as(ball, 0), Check.UNKNOWN);
            check.refused("as(" + ball + ", 5)", BUSY, x -> x.as(ball, 5), Check.UNKNOWN);
        }
        for (int kind : NO_KINDS) {
            check.refused("as(0, " + kind + ")", BUSY, x -> x.as(0, kind), Check.OUTSIDE);
            check.refused("as(4, " + kind + ")", BUSY, x -> x.as(4, kind), Check.OUTSIDE);
        }
    }

    /** "NONE: none; -2: it is a POCKET. UNKNOWN: cell (0 to 44 ..)" */
    private static void cellsOfTheTable() {
        for (int cell : new int[] {-1, -2, 45, Integer.MIN_VALUE, Integer.MAX_VALUE}) {
            check.refused("cell(" + cell + ")", BUSY, x -> x.cell(cell), Check.UNKNOWN);
        }
        for (int cell = 0; cell <= 44; cell++) {
            int asked = cell;
            // BALL 1 fell in the POCKET 0
            int due = Check.isPocket(cell) ? -2 : cell == 20 ? 0 : cell == 41 ? 2 : Check.NONE;
            check.tells("cell(" + cell + ")", POTTED, x -> x.cell(asked), due);
        }
    }

    /** "(NONE: none, ahead of the cushion)" */
    private static void sightAtTheCushion() {
        WhiteWanted top = Check.table("02;b133"), bottom = Check.table("42;b133");
        WhiteWanted left = Check.table("20;b133"), right = Check.table("28;b133");
        for (int direction : new int[] {7, 0, 1}) check.due("over the top", top.sees(direction), Check.NONE);
        for (int direction : new int[] {3, 4, 5}) check.due("over the bottom", bottom.sees(direction), Check.NONE);
        for (int direction : new int[] {5, 6, 7}) check.due("over the left", left.sees(direction), Check.NONE);
        for (int direction : new int[] {1, 2, 3}) check.due("over the right", right.sees(direction), Check.NONE);
        check.due("none seen at all", Check.table("22;b141").count(6), 0);
    }

    /** "Which BALL THE WHITE sees first in a DIRECTION" */
    private static void sightFromEndToEnd() {
        check.due("eight columns away", Check.table("20;b128").sees(2), 1);
        check.due("eight columns back", Check.table("28;b120").sees(6), 1);
        check.due("four rows away", Check.table("01;b141").sees(4), 1);
        check.due("four rows back", Check.table("41;b101").sees(0), 1);
        check.due("four aslant", Check.table("01;b145").sees(3), 1);
        check.due("four aslant back", Check.table("45;b101").sees(7), 1);
        check.due("four aslant, to the left", Check.table("07;b143").sees(5), 1);
        check.due("four aslant back, to the right", Check.table("43;b107").sees(1), 1);
        check.due("the nearest of three", Check.table("20;b124,b122,b128").sees(2), 2);
        int[] around = {11, 12, 21, 30, 29, 28, 19, 10};
        for (int direction = 0; direction < 8; direction++) {
            WhiteWanted x = Check.table("22;b145");
            x.put(1, around[direction]);
            for (int other = 0; other < 8; other++) {
                check.due("beside it", x.sees(other), other == direction ? 1 : Check.NONE);
            }
            check.due("one seen", x.count(6), 1);
        }
        WhiteWanted x = Check.table("22;b121,b123");
        x.lift(1);
        check.due("one that is off is not seen", x.sees(6), Check.NONE);
        check.due("and does not count", x.count(6), 1);
    }

    /** "without a BOUNCE" */
    private static void sightWithoutBounce() {
        WhiteWanted x = Check.table("26;b124");
        check.due("it would be hit off the cushion", x.would(2, 9, 0, 3), 0);
        check.due("off the cushion", x.sees(2), Check.NONE);
        check.due("straight", x.sees(6), 1);
    }

    /** "NONE: none, ahead of the cushion": a POCKET is no cushion. */
    private static void sightOverAPocket() {
        check.due("along the row", Check.table("03;b105").sees(2), 1);
        check.due("along the row, back", Check.table("45;b143").sees(6), 1);
    }

    /** "OUTSIDE: direction (0 to 7); STATE: no TABLE." */
    private static void sightOfNoDirection() {
        for (int direction : new int[] {-1, 8, 9, Integer.MIN_VALUE, Integer.MAX_VALUE}) {
            check.refused("sees(" + direction + ")", BUSY, x -> x.sees(direction), Check.OUTSIDE);
            check.refused("new sees(" + direction + ")", WhiteWanted::new, x -> x.sees(direction), Check.OUTSIDE);
        }
        check.tells("sees(0)", POTTED, x -> x.sees(0), Check.NONE);
        check.tells("sees(7)", POTTED, x -> x.sees(7), Check.NONE);
    }

    /** "STATE: it is a POCKET, or another BALL lies there." */
    private static void putInEveryCell() {
        for (int ball = 0; ball <= 2; ball++) {
            int[] lies = {20, 10, 41};
            for (int cell = 0; cell <= 44; cell++) {
                int number = ball, there = cell;
                Supplier<WhiteWanted> made = () -> Check.table("22;b711,s345");
                boolean taken = (cell == 20 || cell == 10 || cell == 41) && cell != lies[ball];
                String call = "put(" + ball + ", " + cell + ")";
                if (taken || Check.isPocket(cell)) {
                    check.refused(call, made, x -> x.put(number, there), Check.STATE);
                    continue;
                }
                WhiteWanted x = made.get();
                check.due(call, x.put(ball, cell), lies[ball]);
                check.due(call + ": it lies there", x.cell(cell), ball);
                check.due(call + ": it tells so", x.ball(ball, 2), cell);
                if (cell != lies[ball]) check.due(call + ": not where it lay", x.cell(lies[ball]), Check.NONE);
                check.due(call + ": the spot stays", x.count(8), 20);
                check.due(call + ": no stroke", x.count(4), 0);
            }
        }
    }

    /** "(also one that was POTTED): where it lay (NONE)" */
    private static void putBack() {
        WhiteWanted x = potted();
        check.due("put back", x.put(1, 12), Check.NONE);
        check.due("it lies there", x.cell(12), 1);
        check.due("two lie", x.count(1), 2);
        check.due("worth of both", x.count(2), 10);
        check.due("what it brought stays", x.count(3), 1007);
        check.due("put on from there", x.put(1, 10), 12);
        check.due("potted once more", x.stroke(7, 2, 0), 107);
        check.refused("put back on another", POTTED, y -> y.put(1, 41), Check.STATE);
        check.refused("put back in a pocket", POTTED, y -> y.put(1, 8), Check.STATE);
        check.refused("put back on the white", POTTED, y -> y.put(1, 20), Check.STATE);
    }

    /** "UNKNOWN: ball, cell" ahead of "STATE" */
    private static void putThatNamesNothing() {
        for (int ball : NO_BALLS) {
            check.refused("put(" + ball + ", 21)", BUSY, x -> x.put(ball, 21), Check.UNKNOWN);
            check.refused("put(" + ball + ", 0)", BUSY, x -> x.put(ball, 0), Check.UNKNOWN);
        }
        for (int cell : new int[] {-1, -2, 45, Integer.MIN_VALUE, Integer.MAX_VALUE}) {
            check.refused("put(0, " + cell + ")", BUSY, x -> x.put(0, cell), Check.UNKNOWN);
            check.refused("put(4, " + cell + ")", BUSY, x -> x.put(4, cell), Check.UNKNOWN);
        }
    }

    /** lift(): "STATE: it is off." */
    private static void liftOfOneThatIsOff() {
        check.refused("lift of one that is potted", POTTED, x -> x.lift(1), Check.STATE);
        check.refused("lift of one that was lifted", BUSY, x -> x.lift(2), Check.STATE);
        WhiteWanted x = potted();
        check.due("lift the last", x.lift(2), 41);
        check.due("none lies", x.count(1), 0);
        check.due("of no worth", x.count(2), 0);
        check.due("two all the same", x.count(0), 2);
        check.due("its cell is free", x.cell(41), Check.NONE);
        check.due("it brings nothing", x.count(3), 1007);
        check.due("put back", x.put(2, 1), Check.NONE);
        check.due("lift again", x.lift(2), 1);
    }

    /** lift(): "UNKNOWN: ball (not THE WHITE)" */
    private static void liftThatNamesNothing() {
        check.refused("lift(0)", BUSY, x -> x.lift(0), Check.UNKNOWN);
        for (int ball : NO_BALLS) check.refused("lift(" + ball + ")", BUSY, x -> x.lift(ball), Check.UNKNOWN);
    }

    /** "A BALL is changed for one of another KIND: of which it was." */
    private static void changeToEveryKind() {
        int[] ends = {26, 23, 25, 26, 21};
        for (int kind = 0; kind <= 4; kind++) {
            WhiteWanted x = Check.table("20;s122");
            check.due("change(1, " + kind + ")", x.change(1, kind), 4);
            check.due("its kind", x.ball(1, 0), kind);
            check.due("its worth stays", x.ball(1, 1), 1);
            check.due("it rolls so", x.would(2, 9, 0, 10), ends[kind]);
            check.due("to the same kind", x.change(1, kind), kind);
        }
        WhiteWanted x = potted();
        check.due("one that is potted", x.change(1, 2), 0);
        check.due("is potted all the same", x.ball(1, 2), Check.NONE);
    }

    /** change(): "UNKNOWN: ball (not THE WHITE); OUTSIDE: kind." */
    private static void changeThatNamesNothing() {
        check.refused("change(0, 1)", BUSY, x -> x.change(0, 1), Check.UNKNOWN);
        check.refused("change(0, 5)", BUSY, x -> x.change(0, 5), Check.UNKNOWN);
        for (int ball : NO_BALLS) {
            check.refused("change(" + ball + ", 1)", BUSY, x -> x.change(ball, 1), Check.UNKNOWN);
            check.refused("change(" + ball + ", 5)", BUSY, x -> x.change(ball, 5), Check.UNKNOWN);
        }
        for (int kind : NO_KINDS) check.refused("change(1, " + kind + ")", BUSY, x -> x.change(1, kind), Check.OUTSIDE);
    }
}
