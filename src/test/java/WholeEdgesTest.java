import java.util.function.Supplier;

/** The edges of promises 22 to 25 and of what an object is used for, a sentence of the document to each test. */
public final class WholeEdgesTest {
    private static final Check check = new Check();
    private static final Supplier<WhiteWanted> BUSY = Check::busy;

    public static void main(String[] args) {
        imageOfNoTable();
        imageTheLatest();
        imageKeepsWhereAllLie();
        imageKeepsKinds();
        imageKeepsScoreStrokesFouls();
        imageKeepsSeen();
        imageKeepsNothingElse();
        restoreOfNone();
        restoreBehindAnotherTable();
        restoreBehindATableThatWasRefused();
        restoreAgain();
        countsOutside();
        countsOfBalls();
        countsOfTheScore();
        countsOfSight();
        countsOfTheWhite();
        countsOfThePage();
        digestOfNoTable();
        digestOfATable();
        digestInOrder();
        digestOfThePage();
        digestChangesNothing();
        callsUpToTheLast();
        callsBehindTheLast();
        check.end();
    }

    /** image(): "STATE: no TABLE." */
    private static void imageOfNoTable() {
        check.refused("image", WhiteWanted::new, WhiteWanted::image, Check.STATE);
        check.refused("image beside a page", () -> Check.typed("22;b711"), WhiteWanted::image, Check.STATE);
        WhiteWanted x = Check.typed("22;b711");
        x.image();
        x.table();
        check.due("a refused image is none", x.restore(), Check.STATE);
        check.due("image at once", x.image(), 0);
    }

    /** "An IMAGE is kept (one; the latest): how many STROKES there were." */
    private static void imageTheLatest() {
        WhiteWanted x = Check.table("22;b711,s345");
        for (int strokes = 0; strokes <= 3; strokes++) {
            check.due("image " + strokes, x.image(), strokes);
            check.due("image once more", x.image(), strokes);
            if (strokes < 3) x.stroke(2, 1, 0);
        }
        x.stroke(2, 1, 0);
        check.due("strokes", x.count(4), 4);
        check.due("restore", x.restore(), 3);
        check.due("strokes then", x.count(4), 3);
        check.due("the white then", x.count(7), 23);
    }

    /** "An IMAGE keeps where all BALLS lie": THE WHITE, those that lie, and those that are off. */
    private static void imageKeepsWhereAllLie() {
        WhiteWanted x = Check.table("22;b711,s345,h116");
        x.lift(3);
        x.put(0, 30);
        x.image();
        x.put(3, 21);
        x.put(0, 12);
        x.put(2, 30);
        x.lift(1);
        check.due("restore", x.restore(), 0);
        int[] cells = {30, 10, 41, Check.NONE};
        for (int ball = 0; ball <= 3; ball++) check.due("ball " + ball, x.ball(ball, 2), cells[ball]);
        for (int cell = 0; cell <= 44; cell++) {
            int due = Check.isPocket(cell) ? -2 : cell == 30 ? 0 : cell == 10 ? 1 : cell == 41 ? 2 : Check.NONE;
            check.due("cell " + cell, x.cell(cell), due);
        }
        check.due("the spot is the text's", x.count(8), 20);
    }

    /** "KINDS": those that the BALLS are of. */
    private static void imageKeepsKinds() {
        WhiteWanted x = Check.table("22;b711,s345");
        x.change(1, 3);
        x.image();
        x.change(1, 1);
        x.change(2, 0);
        x.restore();
        check.due("dead", x.ball(1, 0), 3);
        check.due("stone", x.ball(2, 0), 4);
        check.due("its worth", x.ball(1, 1), 7);
    }

    /** "the SCORE, STROKES, FOULS" */
    private static void imageKeepsScoreStrokesFouls() {
        WhiteWanted x = Check.table("22;b711,b333");
        x.stroke(0, 1, 0);
        x.put(0, 20);
        x.stroke(7, 2, 0);
        check.due("image", x.image(), 2);
        x.stroke(3, 2, 0);
        x.stroke(0, 1, 0);
        check.due("score ahead", x.count(3), 1000 - 4 + 7 + 3 - 4);
        check.due("restore", x.restore(), 2);
        check.due("score", x.count(3), 1003);
        check.due("strokes", x.count(4), 2);
        check.due("fouls", x.count(5), 1);
        check.due("worth that lies", x.count(2), 3);
    }

    /** "SEEN": none, some, and all that can be. */
    private static void imageKeepsSeen() {
        for (int seen : new int[] {0, 2, 6}) {
            WhiteWanted x = Check.table("20;b122,b733");
            for (int number = 0; number < seen; number++) x.see(1, 2, 9, 23);
            x.image();
            x.forget();
            for (int number = 0; number < 6; number++) x.see(2, 0, 1, 5);
            x.restore();
            check.due("seen of " + seen, x.count(9), seen);
            check.due("kinds of 1", x.ball(1, 3), seen == 0 ? 31 : 2);
            check.due("kinds of 2", x.ball(2, 3), 31);
            check.due("see then", x.see(1, 2, 9, 23), seen == 6 ? Check.FULL : seen + 1);
        }
    }

    /** What an IMAGE keeps is told: THE PAGE and how often this or that was done is not of it. */
    private static void imageKeepsNothingElse() {
        WhiteWanted x = Check.table("22;b711");
        Check.type(x, "20;");
        x.image();
        Check.type(x, "b12");
        x.plan(0);
        x.plan(1);
        x.safe(0);
        check.due("restore", x.restore(), 0);
        check.due("the page", x.count(10), 6);
        check.due("its fault", x.fault(), 6);
        check.due("tables read", x.count(11), 1);
        check.due("plans", x.count(12), 2);
        check.due("safes", x.count(13), 1);
    }

    /** restore(): "STATE: none was kept" */
    private static void restoreOfNone() {
        check.refused("restore, no table", WhiteWanted::new, WhiteWanted::restore, Check.STATE);
        check.refused("restore, none kept", () -> Check.table("22;b711"), WhiteWanted::restore, Check.STATE);
    }

    private static WhiteWanted anotherTable() {
        WhiteWanted x = Check.table("22;b711");
        x.stroke(0, 1, 0);
        x.image();
        Check.type(x, "22;b711");
        x.table();
        x.stroke(7, 2, 0);
        return x;
    }

    /** restore(): "or there is another TABLE since" */
    private static void restoreBehindAnotherTable() {
        check.refused("restore", WholeEdgesTest::anotherTable, WhiteWanted::restore, Check.STATE);
        WhiteWanted x = anotherTable();
        check.due("an image of this one", x.image(), 1);
        x.stroke(7, 2, 0);
        check.due("restore of this one", x.restore(), 1);
        check.due("score of this one", x.count(3), 1007);
    }

    /** A TABLE that was refused is no other TABLE. */
    private static void restoreBehindATableThatWasRefused() {
        WhiteWanted x = Check.busy();
        check.due("table()", x.table(), Check.STATE);
        check.due("restore", x.restore(), 1);
    }

    /** "It goes on from the IMAGE": as often as it is asked for, whatever was between. */
    private static void restoreAgain() {
        WhiteWanted x = Check.busy();
        check.due("restore", x.restore(), 1);
        String kept = Check.told(x);
        check.due("restore at once", x.restore(), 1);
        check.isSo("nothing is changed by it", Check.told(x).equals(kept));
        x.stroke(7, 9, 2);
        x.change(1, 4);
        x.lift(4);
        x.forget();
        x.see(2, 1, 1, 1);
        check.due("restore again", x.restore(), 1);
        check.isSo("all is as it was", Check.told(x).equals(kept));
    }

    /** count(): "OUTSIDE." */
    private static void countsOutside() {
        for (int what : new int[] {-1, 14, 15, Integer.MIN_VALUE, Integer.MAX_VALUE}) {
            check.refused("count(" + what + ")", BUSY, x -> x.count(what), Check.OUTSIDE);
            check.refused("new count(" + what + ")", WhiteWanted::new, x -> x.count(what), Check.OUTSIDE);
        }
        int[] due = {4, 2, 9, 1001, 2, 1, 2, 11, 20, 2, 4, 1, 1, 1};
        for (int number = 0; number < due.length; number++) {
            int what = number;
            check.tells("count(" + what + ")", BUSY, x -> x.count(what), due[what]);
        }
    }

    /** "0 BALLS (without THE WHITE), 1 that lie on the TABLE, 2 what these are WORTH together" */
    private static void countsOfBalls() {
        WhiteWanted x = Check.table("22;b741,b742,b743,b745,b746,b747");
        for (int off = 0; off <= 6; off++) {
            if (off > 0) x.lift(off);
            check.due("balls", x.count(0), 6);
            check.due("that lie", x.count(1), 6 - off);
            check.due("what they are worth", x.count(2), 42 - 7 * off);
        }
    }

    /** "3 the SCORE, and 1000 (1000: no TABLE)": also where it is less than nothing. */
    private static void countsOfTheScore() {
        check.due("no table", new WhiteWanted().count(3), 1000);
        WhiteWanted x = Check.table("22;b741");
        check.due("a table", x.count(3), 1000);
        for (int strokes = 1; strokes <= 300; strokes++) x.stroke(2, 1, 0);
        check.due("three hundred fouls", x.count(3), -200);
        check.due("fouls", x.count(5), 300);
        check.due("strokes", x.count(4), 300);
    }

    /** "6 BALLS that THE WHITE sees" */
    private static void countsOfSight() {
        check.due("no table", new WhiteWanted().count(6), 0);
        check.due("none", Check.table("22;b141").count(6), 0);
        check.due("six", Check.table("22;b111,b112,b113,b121,b123,b131").count(6), 6);
        check.due("one ahead of five", Check.table("22;b123,b124,b125,b126,b127,b128").count(6), 1);
    }

    /** "7 the CELL of THE WHITE (0: no TABLE), 8 its SPOT (0: no TABLE)" */
    private static void countsOfTheWhite() {
        WhiteWanted none = Check.typed("22;b711");
        check.due("no table, white", none.count(7), 0);
        check.due("no table, spot", none.count(8), 0);
        WhiteWanted x = Check.table("01;b143");
        check.due("white", x.count(7), 1);
        x.put(0, 42);
        check.due("white put", x.count(7), 42);
        check.due("spot", x.count(8), 1);
        Check.type(x, "47;b143");
        x.table();
        check.due("spot of another", x.count(8), 43);
    }

    /** "10 letters of THE PAGE, 11 how often a TABLE was read": what was refused is in neither. */
    private static void countsOfThePage() {
        WhiteWanted x = new WhiteWanted();
        for (int letters = 1; letters <= 40; letters++) {
            x.letter('2');
            x.letter(0);
            check.due("letters", x.count(10), Math.min(letters, 34));
        }
        x.table();
        check.due("none read", x.count(11), 0);
        x.blank();
        for (int read = 1; read <= 3; read++) {
            Check.type(x, "22;b711");
            x.table();
            x.table();
            check.due("read", x.count(11), read);
        }
    }

    /** "with a TABLE ..": without one only the letters and the counts are left of the digest. */
    private static void digestOfNoTable() {
        check.tells("digest of a new one", WhiteWanted::new, WhiteWanted::digest, 6578831538787750513L);
        WhiteWanted x = new WhiteWanted();
        x.letter(1);
        x.letter(126);
        check.due("digest of a page", x.digest(), 7663237988684637900L);
    }

    /** "(as longs, wrapping)": 40 numbers, worked out by hand. */
    private static void digestOfATable() {
        long h = 1097;
        int[] numbers = {0, 0, 20, 0, 7, 10, 31, 0, -1, -1, -1, -1, -1, -1, -1, 1, 107, 7, 2, 0, 96, 20, 1, 1, 2, 0,
            1, 1, 7, 1000, 0, 0, 1, 20, 20, 0, 0, 1, 0, 0};
        for (int number : numbers) h = 31 * h + number;
        check.due("these numbers", h, -3887736472002311512L);
        check.tells("digest", () -> Check.table("22;b711"), WhiteWanted::digest, h);
    }

    /** "in order": 46 numbers of an object in which something has been, worked out by hand. */
    private static void digestInOrder() {
        WhiteWanted x = Check.table("20;h322,b733");
        x.stroke(6, 1, 0);
        x.see(1, 2, 3, 20);
        x.plan(0);
        x.safe(0);
        x.safe(0);
        Check.type(x, "2;~");
        int[] numbers = {0, 0, 18, 1, 3, 20, 0, 7, 30, 18, 2, -1, -1, 1, -1, -1, -1, -1, -1, 100, 2, 2, 0,
            100, 22, 0, 0, 8, 2, 50, 59, 126, 2, 2, 10, 996, 1, 1, 1, 18, 18, 1, 3, 1, 1, 2};
        long h = 1097;
        for (int number : numbers) h = 31 * h + number;
        check.due("digest in order", x.digest(), h);
        check.due("digest again", x.digest(), h);
    }

    /** "letters of THE PAGE", behind a TABLE's numbers and ahead of the counts. */
    private static void digestOfThePage() {
        WhiteWanted x = Check.table("22;b711");
        Check.type(x, "2;~");
        check.due("digest", x.digest(), -176564476953130196L);
        x.blank();
        check.due("digest when it is blank", x.digest(), -3887736472002311512L);
    }

    /** digest() only tells. */
    private static void digestChangesNothing() {
        WhiteWanted x = Check.busy();
        long first = x.digest();
        check.tells("digest", BUSY, WhiteWanted::digest, first);
        check.due("digest again", x.digest(), first);
    }

    /** "An object is used for at most 512 calls after it has been made" */
    private static void callsUpToTheLast() {
        WhiteWanted x = Check.table("22;b711,s345");
        // twelve letters and table() were the first thirteen
        for (int call = 14; call < 512; call++) check.due("call " + call, x.put(0, 20), 20);
        check.due("the last call", x.stroke(7, 2, 0), 107);
    }

    /** What later calls answer is free; that none throws is not. */
    private static void callsBehindTheLast() {
        WhiteWanted x = Check.table("22;b711,s345");
        for (int call = 0; call < 3000; call++) {
            x.letter(1 + call % 126);
            x.stroke(call % 8, 1 + call % 9, call % 3);
            x.see(1, call % 8, 9, call % 45);
            x.image();
            x.restore();
        }
        check.isSo("it still answers", x.count(0) == 2);
    }
}
