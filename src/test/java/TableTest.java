/** Promises 6 to 12: ball, as, cell, sees, put, lift, change. */
public final class TableTest {
    private static final Check check = new Check();

    public static void main(String[] args) {
        balls();
        asKinds();
        cells();
        sight();
        puts();
        lifts();
        changes();
        check.end();
    }

    private static void balls() {
        WhiteWanted x = Check.table("22;b711,s345");
        int[] white = {0, 0, 20, 1, Check.NONE, 0};
        for (int what = 0; what < white.length; what++) check.due("white " + what, x.ball(0, what), white[what]);
        check.due("kinds, nothing seen", x.ball(1, 3), 31);
        check.due("wanted", x.ball(1, 5), Long.bitCount(x.wanted(1)));
        check.due("ball(3, 0)", x.ball(3, 0), Check.UNKNOWN);
        check.due("ball(3, 9)", x.ball(3, 9), Check.UNKNOWN);
        for (int odd : Check.ODD) {
            check.due("ball(" + odd + ", 0)", x.ball(odd, 0), Check.UNKNOWN);
            check.due("ball(1, " + odd + ")", x.ball(1, odd), Check.OUTSIDE);
        }
        check.due("ball(0, 6)", x.ball(0, 6), Check.OUTSIDE);
        x.stroke(7, 2, 0);
        int[] potted = {0, 7, Check.NONE, 31, 0, 0};
        for (int what = 0; what < potted.length; what++) check.due("potted " + what, x.ball(1, what), potted[what]);
    }

    private static void asKinds() {
        WhiteWanted x = Check.table("22;b111,h112,l113,d114,s115");
        String[] fits = {"b", "b", "bh", "bl", "bd", "bhs"};
        for (int ball = 0; ball <= 5; ball++) {
            for (int kind = 0; kind < 5; kind++) {
                boolean such = fits[ball].indexOf("bhlds".charAt(kind)) >= 0;
                check.due("as(" + ball + ", " + kind + ")", x.as(ball, kind), such ? ball : Check.NONE);
            }
            check.due("as(" + ball + ", 5)", x.as(ball, 5), Check.OUTSIDE);
            check.due("as(" + ball + ", -1)", x.as(ball, -1), Check.OUTSIDE);
        }
        check.due("as(6, 0)", x.as(6, 0), Check.UNKNOWN);
        check.due("as(-1, 9)", x.as(-1, 9), Check.UNKNOWN);
        x.lift(5);
        check.due("as of one that is off", x.as(5, 1), 5);
        check.due("as without a table", new WhiteWanted().as(0, 0), Check.UNKNOWN);
    }

    private static void cells() {
        WhiteWanted x = Check.table("22;b711,s345");
        for (int cell = 0; cell < 45; cell++) {
            int due = cell == 20 ? 0 : cell == 10 ? 1 : cell == 41 ? 2 : Check.isPocket(cell) ? -2 : Check.NONE;
            check.due("cell(" + cell + ")", x.cell(cell), due);
        }
        check.due("cell(45)", x.cell(45), Check.UNKNOWN);
        for (int odd : Check.ODD) check.due("cell(" + odd + ")", x.cell(odd), Check.UNKNOWN);
        check.due("cell without a table", new WhiteWanted().cell(3), Check.UNKNOWN);
    }

    private static void sight() {
        WhiteWanted x = Check.table("23;b103,b114,b128,b145,b133,b121");
        int[] due = {1, 2, 3, 4, 5, Check.NONE, 6, Check.NONE};
        for (int direction = 0; direction < 8; direction++) check.due("sees(" + direction + ")", x.sees(direction), due[direction]);
        check.due("count(6)", x.count(6), 6);
        x.put(1, 13 + 9);
        check.due("the nearer one", x.sees(2), 1);
        check.due("one hidden", x.count(6), 5);
        check.due("sees(8)", x.sees(8), Check.OUTSIDE);
        check.due("sees(-1)", x.sees(-1), Check.OUTSIDE);
        check.due("sees(8) without a table", new WhiteWanted().sees(8), Check.OUTSIDE);
        check.due("sees(0) without a table", new WhiteWanted().sees(0), Check.STATE);
        check.due("over a pocket", Check.table("03;b105").sees(2), 1);
    }

    private static void puts() {
        WhiteWanted x = Check.table("22;b711,s345");
        check.due("put(1, 12)", x.put(1, 12), 10);
        check.due("cell(10)", x.cell(10), Check.NONE);
        check.due("cell(12)", x.cell(12), 1);
        check.due("put where it lies", x.put(1, 12), 12);
        check.due("put on another", x.put(1, 41), Check.STATE);
        check.due("put on the white", x.put(1, 20), Check.STATE);
        check.due("put in a pocket", x.put(1, 44), Check.STATE);
        check.due("put the white", x.put(0, 10), 20);
        check.due("spot stays", x.count(8), 20);
        check.due("put(3, 1)", x.put(3, 1), Check.UNKNOWN);
        check.due("put(1, 45)", x.put(1, 45), Check.UNKNOWN);
        check.due("put(-1, 0)", x.put(-1, 0), Check.UNKNOWN);
        check.due("put(1, -1)", x.put(1, -1), Check.UNKNOWN);
        x.lift(2);
        check.due("put one that was off", x.put(2, 3), Check.NONE);
        check.due("lying", x.count(1), 2);
        check.due("put without a table", new WhiteWanted().put(0, 3), Check.UNKNOWN);
    }

    private static void lifts() {
        WhiteWanted x = Check.table("22;b711,s345");
        check.due("lift(2)", x.lift(2), 41);
        check.due("lift(2) again", x.lift(2), Check.STATE);
        check.due("cell(41)", x.cell(41), Check.NONE);
        check.due("count(0)", x.count(0), 2);
        check.due("count(1)", x.count(1), 1);
        check.due("count(2)", x.count(2), 7);
        check.due("score", x.count(3), 1000);
        check.due("lift(0)", x.lift(0), Check.UNKNOWN);
        check.due("lift(3)", x.lift(3), Check.UNKNOWN);
        check.due("lift(-1)", x.lift(-1), Check.UNKNOWN);
    }

    private static void changes() {
        WhiteWanted x = Check.table("22;b711,s345");
        check.due("change(1, 3)", x.change(1, 3), 0);
        check.due("change(1, 3) again", x.change(1, 3), 3);
        check.due("kind then", x.ball(1, 0), 3);
        check.due("worth then", x.ball(1, 1), 7);
        check.due("change(2, 5)", x.change(2, 5), Check.OUTSIDE);
        check.due("change(2, -1)", x.change(2, -1), Check.OUTSIDE);
        check.due("change(0, 1)", x.change(0, 1), Check.UNKNOWN);
        check.due("change(0, 9)", x.change(0, 9), Check.UNKNOWN);
        check.due("change(3, 1)", x.change(3, 1), Check.UNKNOWN);
        check.due("kind of 2", x.ball(2, 0), 4);
    }
}
