import java.util.function.Supplier;

/** The edges of promises 15 to 18, a sentence of the document to each test. */
public final class ChoiceEdgesTest {
    private static final Check check = new Check();
    private static final int[] NO_WHATS = {-1, 4, Integer.MIN_VALUE, Integer.MAX_VALUE};
    private static final Supplier<WhiteWanted> BUSY = Check::busy;

    public static void main(String[] args) {
        bestOfLikeOnes();
        bestOfFouls();
        bestRefused();
        planOfBoth();
        planOfLikeOnes();
        planBySpinOfTheFirstAlone();
        planByTheStrengthBehindIt();
        planOfFouls();
        planRefused();
        planEightTimes();
        safeOfLikeOnes();
        safeLeavesLeast();
        safeOfFouls();
        safeRefused();
        safeEightTimes();
        plansOfAnotherTable();
        choicesOneBehindTheOther();
        wantedCells();
        wantedFromFreeCellsAlone();
        wantedWithoutSpin();
        wantedFromNowhere();
        wantedRefused();
        check.end();
    }

    private static void best(String text, int... due) {
        for (int number = 0; number <= 3; number++) {
            int what = number;
            check.tells(text + ": best(" + what + ")", () -> Check.table(text), x -> x.best(what), due[what]);
        }
    }

    private static void plan(String text, int... due) {
        WhiteWanted x = Check.table(text);
        for (int what = 0; what <= 3; what++) check.due(text + ": plan(" + what + ")", x.plan(what), due[what]);
        check.due(text + ": plans done", x.count(12), 4);
        check.due(text + ": plan() plays nothing", x.digest(), countedAlike(text, 4, 0));
    }

    private static void safe(String text, int... due) {
        WhiteWanted x = Check.table(text);
        for (int what = 0; what <= 3; what++) check.due(text + ": safe(" + what + ")", x.safe(what), due[what]);
        check.due(text + ": safes done", x.count(13), 4);
        check.due(text + ": safe() plays nothing", x.digest(), countedAlike(text, 0, 4));
    }

    /** The two last numbers of a digest are the counts of plan() and safe(). */
    private static long countedAlike(String text, int plans, int safes) {
        return Check.table(text).digest() + 31L * plans + safes;
    }

    /** "(by DIRECTION, then STRENGTH, then SPIN, the first of like ones)" */
    private static void bestOfLikeOnes() {
        best("22;b711", 107, 7, 2, 0);
        // the like one in the lesser direction
        best("22;b711,b731", 107, 5, 2, 0);
        best("22;b711,b713", 107, 1, 2, 0);
        best("22;b613,b711", 107, 7, 2, 0);
        best("22;b713,b611", 107, 1, 2, 0);
        // nothing can be potted: the first that hits; of like ones the least strength, without spin
        best("22;b124", 100, 2, 2, 0);
        best("22;b123", 100, 2, 1, 0);
        // the second one only by spin
        best("22;b711,b333", 110, 3, 5, 2);
    }

    /** "which STROKE brings most": where all are FOULS the first of them. */
    private static void bestOfFouls() {
        WhiteWanted x = Check.table("22;b711");
        x.lift(1);
        int[] due = {96, 0, 1, 0};
        for (int what = 0; what <= 3; what++) check.due("best of fouls, " + what, x.best(what), due[what]);
        // the ball lies where no stroke comes
        best("22;b141", 96, 0, 1, 0);
    }

    /** best(): "OUTSIDE; STATE: no TABLE." */
    private static void bestRefused() {
        for (int what : NO_WHATS) {
            check.refused("best(" + what + ")", BUSY, x -> x.best(what), Check.OUTSIDE);
            check.refused("new best(" + what + ")", WhiteWanted::new, x -> x.best(what), Check.OUTSIDE);
        }
        check.refused("new best(3)", WhiteWanted::new, x -> x.best(3), Check.STATE);
    }

    /** "which STROKE brings most together with the best one behind it" */
    private static void planOfBoth() {
        // to pot at once leaves a foul; to touch it, and pot then, brings all
        plan("22;b711", 107, 7, 1, 0);
        // to pot the greater one alone brings less than both, one behind the other
        plan("22;b711,b613", 113, 1, 2, 0);
    }

    /** PLAN: "of like ones the first" */
    private static void planOfLikeOnes() {
        plan("24;b714", 107, 0, 1, 0);
        plan("22;b111,b131", 102, 5, 2, 0);
        plan("22;b113,b111", 102, 1, 2, 0);
    }

    /** "of those without SPIN": the one behind it has none. */
    private static void planBySpinOfTheFirstAlone() {
        // two by the spin of the first, and the third behind it
        plan("22;b711,b733,b713", 121, 3, 5, 2);
        // had the one behind it spin, a touch of strength 1 would do as well, and be the first
        plan("22;b711,b333", 110, 3, 2, 0);
        // the same of one that goes on, and pots what it left
        plan("33;b722,b111", 108, 7, 3, 0);
    }

    /** "of STRENGTH 3, 6, or 9": a stone in the middle is potted by 9 alone. */
    private static void planByTheStrengthBehindIt() {
        best("33;s722", 107, 7, 9, 0);
        plan("33;s722", 107, 7, 1, 0);
    }

    /** PLAN where all are FOULS: the first, and 4 less for each. */
    private static void planOfFouls() {
        WhiteWanted x = Check.table("22;b711");
        x.lift(1);
        int[] due = {92, 0, 1, 0};
        for (int what = 0; what <= 3; what++) check.due("plan of fouls, " + what, x.plan(what), due[what]);
    }

    /** plan(): "OUTSIDE; STATE: no TABLE": and what is refused is not done. */
    private static void planRefused() {
        for (int what : NO_WHATS) {
            check.refused("plan(" + what + ")", BUSY, x -> x.plan(what), Check.OUTSIDE);
            check.refused("new plan(" + what + ")", WhiteWanted::new, x -> x.plan(what), Check.OUTSIDE);
        }
        check.refused("new plan(3)", WhiteWanted::new, x -> x.plan(3), Check.STATE);
    }

    private static WhiteWanted planned() {
        WhiteWanted x = Check.table("22;b711");
        for (int number = 0; number < 8; number++) x.plan(number % 4);
        return x;
    }

    /** "or plan() was done 8 times" */
    private static void planEightTimes() {
        WhiteWanted x = Check.table("22;b711");
        for (int number = 1; number <= 8; number++) {
            check.due("plan " + number, x.plan(0), 107);
            check.due("wrong between", x.plan(4), Check.OUTSIDE);
            check.due("plans done", x.count(12), number);
        }
        for (int what = 0; what <= 3; what++) {
            int asked = what;
            check.refused("ninth plan(" + what + ")", ChoiceEdgesTest::planned, y -> y.plan(asked), Check.STATE);
        }
        check.refused("ninth plan, wrong too", ChoiceEdgesTest::planned, y -> y.plan(4), Check.OUTSIDE);
        check.due("safe() is counted by itself", x.safe(0), 96);
        check.due("best() is not counted", x.best(0), 107);
    }

    /** SAFE: "of like ones the first" */
    private static void safeOfLikeOnes() {
        // whatever is hit, the reply can hit again, and pots nothing: the first stroke that is no foul
        safe("22;b123", 100, 2, 1, 0);
        safe("22;b112", 100, 0, 1, 0);
    }

    /** "leaves a TABLE on which the best one .. brings least" */
    private static void safeLeavesLeast() {
        safe("22;b711", 96, 7, 2, 0);
    }

    /** "none, if all are FOULS", "NONE." */
    private static void safeOfFouls() {
        safe("22;b141", Check.NONE, Check.NONE, Check.NONE, Check.NONE);
        WhiteWanted x = Check.table("22;b711");
        x.lift(1);
        for (int what = 0; what <= 3; what++) check.due("safe of fouls, " + what, x.safe(what), Check.NONE);
        check.due("it was done", x.count(13), 4);
    }

    /** safe(): "OUTSIDE; STATE: no TABLE": and what is refused is not done. */
    private static void safeRefused() {
        for (int what : NO_WHATS) {
            check.refused("safe(" + what + ")", BUSY, x -> x.safe(what), Check.OUTSIDE);
            check.refused("new safe(" + what + ")", WhiteWanted::new, x -> x.safe(what), Check.OUTSIDE);
        }
        check.refused("new safe(3)", WhiteWanted::new, x -> x.safe(3), Check.STATE);
    }

    private static WhiteWanted safelyDone() {
        WhiteWanted x = Check.table("22;b711");
        for (int number = 0; number < 8; number++) x.safe(number % 4);
        return x;
    }

    /** "or safe() was done 8 times" */
    private static void safeEightTimes() {
        WhiteWanted x = Check.table("22;b711");
        for (int number = 1; number <= 8; number++) {
            check.due("safe " + number, x.safe(1), 7);
            check.due("wrong between", x.safe(-1), Check.OUTSIDE);
            check.due("safes done", x.count(13), number);
        }
        for (int what = 0; what <= 3; what++) {
            int asked = what;
            check.refused("ninth safe(" + what + ")", ChoiceEdgesTest::safelyDone, y -> y.safe(asked), Check.STATE);
        }
        check.refused("ninth safe, wrong too", ChoiceEdgesTest::safelyDone, y -> y.safe(4), Check.OUTSIDE);
        check.due("plan() is counted by itself", x.plan(0), 107);
    }

    /** "was done 8 times": neither another TABLE nor an IMAGE makes it less. */
    private static void plansOfAnotherTable() {
        WhiteWanted x = Check.table("22;b711");
        x.image();
        for (int number = 0; number < 8; number++) {
            x.plan(0);
            x.safe(0);
        }
        x.restore();
        check.due("plan behind restore()", x.plan(0), Check.STATE);
        check.due("safe behind restore()", x.safe(0), Check.STATE);
        Check.type(x, "22;b711");
        x.table();
        check.due("plan on another table", x.plan(0), Check.STATE);
        check.due("safe on another table", x.safe(0), Check.STATE);
        check.due("plans done", x.count(12), 8);
        check.due("safes done", x.count(13), 8);
    }

    /** BEST, PLAN and SAFE are each of the TABLE as it is, whatever was asked ahead. */
    private static void choicesOneBehindTheOther() {
        WhiteWanted x = Check.table("22;b711");
        for (int round = 0; round < 4; round++) {
            check.due("best", x.best(2), 2);
            check.due("plan", x.plan(2), 1);
            check.due("safe", x.safe(2), 2);
            check.due("plan behind safe", x.plan(0), 107);
            check.due("best behind plan", x.best(2), 2);
            check.due("safe behind best", x.safe(0), 96);
        }
        x.lift(1);
        check.due("best of what is left", x.best(0), 96);
        check.due("and which it is", x.best(1), 0);
    }

    private static void wanted(String text, int ball, int... cells) {
        long bits = 0;
        for (int cell : cells) bits |= 1L << cell;
        check.tells(text + ": wanted(" + ball + ")", () -> Check.table(text), x -> x.wanted(ball), bits);
        check.tells(text + ": ball(" + ball + ", 5)", () -> Check.table(text), x -> x.ball(ball, 5), cells.length);
    }

    /** "from which CELLS, no POCKET, that are free but for THE WHITE, it could be POTTED .. as bits" */
    private static void wantedCells() {
        // from the cell where the white lies, too
        wanted("22;b711", 1, 20, 30);
        wanted("01;b711", 1, 20, 30);
        wanted("01;b102", 1, 1, 3);
        // bits above those of an int
        wanted("22;b142", 1, 37, 39);
        wanted("22;b147", 1, 41, 42);
        wanted("21;b122", 1, 10, 12, 28, 30);
        // a stone in the middle only by the greatest strength, from beside it
        wanted("21;s122", 1, 10, 12, 28, 30);
        wanted("21;s133", 1, 10, 20);
    }

    /** "that are free" */
    private static void wantedFromFreeCellsAlone() {
        wanted("22;b711,b133", 1, 20);
        wanted("22;b711,b133", 2, 20);
        // from behind the other, which hits it
        wanted("33;b711,b122", 1, 30);
        // where it lies itself, and where another stands in the way
        wanted("01;b102,b103", 1);
    }

    /** "by a STROKE that is no FOUL, without SPIN" */
    private static void wantedWithoutSpin() {
        // struck low the white would come back from the one to the other: that is not without spin
        wanted("22;b711,b333", 1, 20);
        check.due("with spin it could be", Check.table("22;b711,b333").would(3, 5, 2, 2), 6);
    }

    /** WANTED from no CELL at all. */
    private static void wantedFromNowhere() {
        wanted("22;b112", 1);
        wanted("22;b723", 1);
        wanted("22;b136", 1);
    }

    /** "UNKNOWN: ball (not THE WHITE; one that lies on the TABLE)." */
    private static void wantedRefused() {
        check.refused("wanted(0)", BUSY, x -> x.wanted(0), Check.UNKNOWN);
        check.refused("wanted of one that is off", BUSY, x -> x.wanted(2), Check.UNKNOWN);
        for (int ball : new int[] {-1, 5, 6, 7, Integer.MIN_VALUE, Integer.MAX_VALUE}) {
            check.refused("wanted(" + ball + ")", BUSY, x -> x.wanted(ball), Check.UNKNOWN);
        }
        WhiteWanted x = Check.table("22;b711,b145");
        x.stroke(7, 2, 0);
        check.due("wanted of one that is potted", x.wanted(1), Check.UNKNOWN);
        x.put(1, 10);
        check.due("wanted when it is back", x.wanted(1), 1L << 20 | 1L << 30);
    }
}
