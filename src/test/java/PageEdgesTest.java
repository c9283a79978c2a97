import java.util.function.Supplier;

/** The edges of promises 1 to 5 and of the text of a TABLE, a sentence of the document to each test. */
public final class PageEdgesTest {
    private static final Check check = new Check();
    private static final String SIX = "20;b121,h122,l123,d124,s125,b126";
    private static final Supplier<WhiteWanted> NEW = WhiteWanted::new;
    private static final Supplier<WhiteWanted> BUSY = Check::busy;

    public static void main(String[] args) {
        noTableAtFirst();
        callsWithoutTable();
        codesOfLetters();
        fullPage();
        blankOfAnyPage();
        faultOfNoneAndOfAll();
        faultIsTheFirst();
        everyCodeAtEveryPlace();
        everyCellOfTheWhite();
        everyCellOfABall();
        rowThatIsFull();
        worths();
        howManyBalls();
        pageThatIsNoTable();
        pageThatIsATable();
        anotherTable();
        check.end();
    }

    /** "No TABLE." and "At first there is none." */
    private static void noTableAtFirst() {
        WhiteWanted x = new WhiteWanted();
        for (int what = 0; what <= 13; what++) check.due("new count(" + what + ")", x.count(what), what == 3 ? 1000 : 0);
        check.due("new fault()", x.fault(), 0);
        check.due("new blank()", x.blank(), 0);
        check.due("new forget()", x.forget(), 0);
    }

    /** "STATE: no TABLE", "also without a TABLE": and where a BALL is asked for, its number names nothing. */
    private static void callsWithoutTable() {
        check.refused("new table()", NEW, WhiteWanted::table, Check.STATE);
        for (int ball = 0; ball <= 1; ball++) {
            int number = ball;
            check.refused("new ball", NEW, x -> x.ball(number, 0), Check.UNKNOWN);
            check.refused("new ball, wrong what", NEW, x -> x.ball(number, 6), Check.UNKNOWN);
            check.refused("new as", NEW, x -> x.as(number, 0), Check.UNKNOWN);
            check.refused("new put", NEW, x -> x.put(number, 20), Check.UNKNOWN);
            check.refused("new put in a pocket", NEW, x -> x.put(number, 0), Check.UNKNOWN);
            check.refused("new lift", NEW, x -> x.lift(number), Check.UNKNOWN);
            check.refused("new change", NEW, x -> x.change(number, 1), Check.UNKNOWN);
            check.refused("new wanted", NEW, x -> x.wanted(number), Check.UNKNOWN);
            check.refused("new see", NEW, x -> x.see(number, 0, 1, 20), Check.UNKNOWN);
        }
        for (int cell : new int[] {0, 20, 44}) check.refused("new cell", NEW, x -> x.cell(cell), Check.UNKNOWN);
        check.refused("new sees", NEW, x -> x.sees(0), Check.STATE);
        check.refused("new stroke", NEW, x -> x.stroke(0, 1, 0), Check.STATE);
        check.refused("new would", NEW, x -> x.would(0, 1, 0, 0), Check.STATE);
        check.refused("new best", NEW, x -> x.best(0), Check.STATE);
        check.refused("new plan", NEW, x -> x.plan(0), Check.STATE);
        check.refused("new safe", NEW, x -> x.safe(0), Check.STATE);
        check.refused("new frames", NEW, x -> x.frames(1, 0, 0), Check.STATE);
        check.refused("new image", NEW, WhiteWanted::image, Check.STATE);
        check.refused("new restore", NEW, WhiteWanted::restore, Check.STATE);
    }

    /** "OUTSIDE: code (1 to 126)" */
    private static void codesOfLetters() {
        for (int code : new int[] {0, 127, 128, 256 + 50, -1, Integer.MIN_VALUE, Integer.MAX_VALUE}) {
            check.refused("letter(" + code + ")", BUSY, x -> x.letter(code), Check.OUTSIDE);
        }
        for (int code = 1; code <= 126; code++) {
            WhiteWanted x = new WhiteWanted();
            check.due("letter(" + code + ")", x.letter(code), 1);
            check.due("letter(" + code + ") again", x.letter(code), 2);
        }
    }

    private static WhiteWanted full() {
        return Check.typed(SIX + "bb");
    }

    /** "FULL: above 34." and of two refusals the first as told. */
    private static void fullPage() {
        WhiteWanted x = Check.typed(SIX + "b");
        check.due("letter 34", x.letter('b'), 34);
        check.refused("letter 35", PageEdgesTest::full, y -> y.letter('b'), Check.FULL);
        check.refused("letter 35, code 1", PageEdgesTest::full, y -> y.letter(1), Check.FULL);
        check.refused("letter 35, code 126", PageEdgesTest::full, y -> y.letter(126), Check.FULL);
        check.refused("letter 35, code 0", PageEdgesTest::full, y -> y.letter(0), Check.OUTSIDE);
        check.refused("letter 35, code 127", PageEdgesTest::full, y -> y.letter(127), Check.OUTSIDE);
    }

    /** "THE PAGE is empty: how many letters it had." */
    private static void blankOfAnyPage() {
        for (int letters : new int[] {0, 1, 33, 34}) {
            WhiteWanted x = Check.typed((SIX + "bb").substring(0, letters));
            check.due("blank of " + letters, x.blank(), letters);
            check.due("letters then", x.count(10), 0);
            check.due("fault then", x.fault(), 0);
            check.due("blank again", x.blank(), 0);
            check.due("letter then", x.letter('5'), 1);
            check.due("fault of the new letter", x.fault(), 0);
        }
        WhiteWanted y = Check.table("22;b711");
        Check.type(y, "20;");
        check.due("blank beside a table", y.blank(), 3);
        check.due("the table stays", y.cell(10), 1);
    }

    /** "how many letters it has, if there is none." */
    private static void faultOfNoneAndOfAll() {
        for (int letters = 0; letters <= SIX.length(); letters++) {
            String text = SIX.substring(0, letters);
            check.tells("fault of " + text, () -> Check.typed(text), WhiteWanted::fault, letters);
        }
        check.tells("fault beside a table", BUSY, WhiteWanted::fault, 4);
    }

    /** "The place (from 0) of the first letter .. that no TABLE has there, behind those ahead of it" */
    private static void faultIsTheFirst() {
        check.tells("fault at 0", () -> Check.typed("x0;b1"), WhiteWanted::fault, 0);
        check.tells("fault at 0, and at all behind", () -> Check.typed("xxxxxxx"), WhiteWanted::fault, 0);
        check.tells("fault at 2 and 4", () -> Check.typed("20,b9"), WhiteWanted::fault, 2);
        check.tells("fault at the last", () -> Check.typed("20;b129"), WhiteWanted::fault, 6);
        check.tells("a letter too many", () -> Check.typed(SIX + ","), WhiteWanted::fault, 32);
        check.tells("two letters too many", () -> Check.typed(SIX + ",b"), WhiteWanted::fault, 32);
    }

    /** What may stand at a place of SIX, behind what stands there ahead of it. */
    private static String fitting(int place) {
        if (place >= SIX.length()) return "";
        switch (place % 5) {
            case 0: return "01234";
            // in row 2 the columns ahead are taken, the white's first
            case 1: return "012345678".substring(place / 5);
            case 2: return place == 2 ? ";" : ",";
            case 3: return "bhlds";
            default: return "1234567";
        }
    }

    /** "two digits .. then ";" and one to six BALLS .. with "," between, each a letter .. a digit .. two digits" */
    private static void everyCodeAtEveryPlace() {
        for (int place = 0; place < 34; place++) {
            String ahead = (SIX + "b").substring(0, place);
            for (int code = 1; code <= 126; code++) {
                WhiteWanted x = Check.typed(ahead);
                x.letter(code);
                boolean fits = fitting(place).indexOf(code) >= 0;
                int due = place > SIX.length() ? SIX.length() : fits ? place + 1 : place;
                check.due("fault of " + ahead + " and " + code, x.fault(), due);
            }
        }
    }

    /** "Six of these are POCKETS: rows 0 and 4, columns 0, 4, 8." and "None lies in a POCKET": of THE WHITE. */
    private static void everyCellOfTheWhite() {
        for (int cell = 0; cell < 45; cell++) {
            String white = "" + cell / 9 + cell % 9;
            String text = white + ";b1" + (cell == 20 ? "21" : "22");
            WhiteWanted x = Check.typed(text);
            boolean pocket = Check.isPocket(cell);
            check.due("fault of " + text, x.fault(), pocket ? 1 : 7);
            check.due("table of " + text, x.table(), pocket ? Check.STATE : 1);
            check.due("white of " + text, x.count(7), pocket ? 0 : cell);
            check.due("spot of " + text, x.count(8), pocket ? 0 : cell);
        }
    }

    /** "None lies in a POCKET, no two lie in one CELL (else the fault is at the column)": of a BALL. */
    private static void everyCellOfABall() {
        for (int cell = 0; cell < 45; cell++) {
            String text = "22;b131,h2" + cell / 9 + cell % 9;
            boolean wrong = Check.isPocket(cell) || cell == 20 || cell == 28;
            WhiteWanted x = Check.typed(text);
            check.due("fault of " + text, x.fault(), wrong ? 11 : 12);
            check.due("table of " + text, x.table(), wrong ? Check.STATE : 2);
            check.due("ball 2 of " + text, x.ball(2, 2), wrong ? Check.UNKNOWN : cell);
        }
    }

    /** "(else the fault is at the column)": also where a row has no CELL left. */
    private static void rowThatIsFull() {
        String[] rows = {"01;b102,b103,b105,b106,b107,b10", "41;b142,b143,b145,b146,b147,b14"};
        for (String text : rows) {
            check.tells("fault of " + text, () -> Check.typed(text), WhiteWanted::fault, 31);
            for (char column = '0'; column <= '9'; column++) {
                String whole = text + column;
                check.tells("fault of " + whole, () -> Check.typed(whole), WhiteWanted::fault, 31);
            }
        }
    }

    /** "a digit WORTH (1 to 7)" */
    private static void worths() {
        for (int worth = 0; worth <= 9; worth++) {
            boolean fits = worth >= 1 && worth <= 7;
            WhiteWanted x = Check.typed("22;b" + worth + "11");
            check.due("fault of worth " + worth, x.fault(), fits ? 7 : 4);
            check.due("table of worth " + worth, x.table(), fits ? 1 : Check.STATE);
            check.due("worth " + worth, x.ball(1, 1), fits ? worth : Check.UNKNOWN);
        }
    }

    /** "one to six BALLS (numbered from 1; THE WHITE is BALL 0)" */
    private static void howManyBalls() {
        for (int balls = 1; balls <= 6; balls++) {
            WhiteWanted x = Check.typed(SIX.substring(0, 2 + 5 * balls));
            check.due("table of " + balls, x.table(), balls);
            check.due("count(0) of " + balls, x.count(0), balls);
            check.due("the white of " + balls, x.ball(0, 2), 18);
            check.due("the first of " + balls, x.ball(1, 2), 19);
            check.due("the last of " + balls, x.ball(balls, 2), 18 + balls);
            check.due("one behind the last of " + balls, x.ball(balls + 1, 2), Check.UNKNOWN);
        }
        check.refused("no ball", () -> Check.typed("20"), WhiteWanted::table, Check.STATE);
        check.refused("no ball behind the sign", () -> Check.typed("20;"), WhiteWanted::table, Check.STATE);
    }

    /** "STATE: it is none." */
    private static void pageThatIsNoTable() {
        for (int letters = 0; letters < SIX.length(); letters++) {
            if (letters >= 7 && letters % 5 == 2) continue;
            String text = SIX.substring(0, letters);
            check.refused("table of " + text, () -> Check.typed(text), WhiteWanted::table, Check.STATE);
        }
        check.refused("a letter too many", () -> Check.typed(SIX + ","), WhiteWanted::table, Check.STATE);
        check.refused("two letters too many", () -> Check.typed(SIX + ",b"), WhiteWanted::table, Check.STATE);
        check.refused("a letter behind one ball", () -> Check.typed("20;b121 "), WhiteWanted::table, Check.STATE);
        for (int place = 0; place < 12; place++) {
            String text = "20;b121,h122".substring(0, place) + "~" + "20;b121,h122".substring(place + 1);
            check.refused("table of " + text, () -> Check.typed(text), WhiteWanted::table, Check.STATE);
        }
        check.refused("half a page beside a table", BUSY, WhiteWanted::table, Check.STATE);
    }

    /** "THE PAGE is empty then." */
    private static void pageThatIsATable() {
        WhiteWanted x = Check.typed(SIX);
        check.due("table()", x.table(), 6);
        check.due("letters then", x.count(10), 0);
        check.due("blank then", x.blank(), 0);
        check.due("table() of the page that is empty", x.table(), Check.STATE);
        check.due("the table stays", x.count(0), 6);
        check.due("tables read", x.count(11), 1);
        check.due("letter then", x.letter('2'), 1);
    }

    /** "(another one is gone, with all that was)" */
    private static void anotherTable() {
        WhiteWanted x = Check.busy(), y = Check.table("20;l121");
        x.blank();
        Check.type(x, "20;l121");
        check.due("another table", x.table(), 1);
        for (int what = 0; what <= 10; what++) check.due("count(" + what + ")", x.count(what), y.count(what));
        check.due("tables read", x.count(11), 2);
        for (int what = 0; what <= 5; what++) check.due("ball(1, " + what + ")", x.ball(1, what), y.ball(1, what));
        for (int ball = 2; ball <= 4; ball++) {
            int number = ball;
            check.due("ball " + ball + " is gone", x.ball(ball, 2), Check.UNKNOWN);
            check.due("would not tell of ball " + ball, x.would(0, 1, 0, 9 + number), Check.NONE);
        }
        for (int cell = 0; cell < 45; cell++) check.due("cell(" + cell + ")", x.cell(cell), y.cell(cell));
        check.due("the image is gone", x.restore(), Check.STATE);
        Check.type(x, "20;l121");
        check.due("the same text once more", x.table(), 1);
        check.due("tables read", x.count(11), 3);
    }
}
