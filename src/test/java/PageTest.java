/** Promises 1 to 5: a new object, letter, blank, fault, table. */
public final class PageTest {
    private static final Check check = new Check();

    public static void main(String[] args) {
        newObject();
        letters();
        faults();
        tables();
        tableEndsAllThatWas();
        check.end();
    }

    private static void newObject() {
        WhiteWanted x = new WhiteWanted();
        int[] counts = {0, 0, 0, 1000, 0, 0, 0, 0, 0, 0, 0, 0, 0, 0};
        for (int what = 0; what < counts.length; what++) check.due("new count(" + what + ")", x.count(what), counts[what]);
        check.due("new blank", x.blank(), 0);
        check.due("new fault", x.fault(), 0);
        check.due("new table", x.table(), Check.STATE);
        check.due("new ball", x.ball(0, 0), Check.UNKNOWN);
        check.due("new sees", x.sees(0), Check.STATE);
        check.due("new forget", x.forget(), 0);
    }

    private static void letters() {
        WhiteWanted x = new WhiteWanted();
        check.due("letter(0)", x.letter(0), Check.OUTSIDE);
        check.due("letter(127)", x.letter(127), Check.OUTSIDE);
        for (int code : Check.ODD) if (code != 100) check.due("letter(" + code + ")", x.letter(code), Check.OUTSIDE);
        check.due("letter(1)", x.letter(1), 1);
        check.due("letter(126)", x.letter(126), 2);
        for (int number = 3; number <= 34; number++) check.due("letter " + number, x.letter('0'), number);
        check.due("letter 35", x.letter('0'), Check.FULL);
        check.due("letter 35, wrong too", x.letter(0), Check.OUTSIDE);
        check.due("count(10)", x.count(10), 34);
        check.due("blank", x.blank(), 34);
        check.due("blank again", x.blank(), 0);
        check.due("letter behind blank", x.letter('0'), 1);
    }

    private static void fault(String text, int place) {
        WhiteWanted x = Check.typed(text);
        check.due("fault of " + text, x.fault(), place);
        check.due("letters of " + text, x.count(10), text.length());
    }

    private static void faults() {
        fault("", 0);
        fault("2", 1);
        fault("5", 0);
        fault("/", 0);
        fault("29", 1);
        fault("2:", 1);
        fault("28", 2);
        for (String pocket : new String[] {"00", "04", "08", "40", "44", "48"}) fault(pocket, 1);
        fault("24", 2);
        fault("20,", 2);
        fault("20;", 3);
        fault("20;;", 3);
        fault("20;x", 3);
        fault("20;B", 3);
        for (char kind : "bhlds".toCharArray()) fault("20;" + kind, 4);
        fault("20;b0", 4);
        fault("20;b8", 4);
        fault("20;b1", 5);
        fault("20;b7", 5);
        fault("20;b75", 5);
        fault("20;b70", 6);
        fault("20;b700", 6);
        fault("20;b720", 6);
        fault("20;b721", 7);
        fault("20;b721;", 7);
        fault("20;b721,", 8);
        fault("20;b721,h121", 11);
        fault("20;b721,h120", 11);
        fault("20;b721,h122", 12);
        fault("9x;b721", 0);
        fault("20;b121,b122,b123,b124,b125,b126", 32);
        fault("20;b121,b122,b123,b124,b125,b126,", 32);
        fault("20;b121,b122,b123,b124,b125,b126,b", 32);
        // a row that is full: the fault is at the column, as for any cell that is taken
        fault("01;b102,b103,b105,b106,b107,b10", 31);
        fault("01;b102,b103,b105,b106,b107,b101", 31);
    }

    private static void refused(String text) {
        WhiteWanted x = Check.typed(text);
        check.due("table of " + text, x.table(), Check.STATE);
        check.due("letters kept of " + text, x.count(10), text.length());
        check.due("tables read of " + text, x.count(11), 0);
    }

    private static void tables() {
        refused("");
        refused("20");
        refused("20;");
        refused("20;b12");
        refused("20;b121,");
        refused("20;b121,b12");
        refused("20;b121,b121");
        refused("20;b121x");
        refused("20;b121,b122,b123,b124,b125,b126,");
        WhiteWanted x = Check.typed("37;s701,d616,l422,h345,b217,b143");
        check.due("table of six", x.table(), 6);
        check.due("page behind table", x.count(10), 0);
        int[] kinds = {0, 4, 3, 2, 1, 0, 0};
        int[] worths = {0, 7, 6, 4, 3, 2, 1};
        int[] cells = {34, 1, 15, 20, 41, 16, 39};
        for (int ball = 0; ball <= 6; ball++) {
            check.due("kind " + ball, x.ball(ball, 0), kinds[ball]);
            check.due("worth " + ball, x.ball(ball, 1), worths[ball]);
            check.due("cell " + ball, x.ball(ball, 2), cells[ball]);
        }
        check.due("spot", x.count(8), 34);
        check.due("read", x.count(11), 1);
    }

    private static void tableEndsAllThatWas() {
        WhiteWanted x = Check.table("22;b711,h345");
        x.stroke(0, 1, 0);
        x.stroke(7, 2, 0);
        x.see(2, 3, 4, 5);
        x.image();
        x.plan(0);
        x.safe(0);
        Check.type(x, "20;");
        check.due("half a table", x.table(), Check.STATE);
        check.due("strokes stay", x.count(4), 2);
        check.due("image stays", x.restore(), 2);
        Check.type(x, "l121");
        check.due("another table", x.table(), 1);
        int[] counts = {1, 1, 1, 1000, 0, 0, 1, 18, 18, 0, 0, 2, 1, 1};
        for (int what = 0; what < counts.length; what++) check.due("count(" + what + ") then", x.count(what), counts[what]);
        check.due("second ball is gone", x.ball(2, 0), Check.UNKNOWN);
        check.due("image is gone", x.restore(), Check.STATE);
        check.due("cell of a ball that was", x.cell(41), Check.NONE);
    }
}
