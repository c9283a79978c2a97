import java.util.function.Supplier;

/** The edges of promises 19 to 21 and of KINDS and TRY, a sentence of the document to each test. */
public final class SeenEdgesTest {
    private static final Check check = new Check();
    private static final int LEAST = Integer.MIN_VALUE, MOST = Integer.MAX_VALUE;
    private static final Supplier<WhiteWanted> BUSY = Check::busy;
    private static final Supplier<WhiteWanted> SIX = SeenEdgesTest::sixSeen;

    public static void main(String[] args) {
        kindsByOneThatIsSeen();
        kindsByPotting();
        kindsOfAll();
        kindsOfNone();
        kindsByEachOfSix();
        kindsAllElseAsItIs();
        kindsOfOneThatIsOff();
        kindsWithoutSpin();
        tryOfLikeOnes();
        tryThatTellsMost();
        tryOfStrengthSix();
        tryOfNone();
        seenThatNamesNothing();
        seenOutside();
        seenInAPocket();
        seenSixAtMost();
        forgetOfAny();
        framesByTheirSeed();
        framesOfOneAndOfSixty();
        framesChangeNothing();
        framesRefused();
        check.end();
    }

    private static WhiteWanted sixSeen() {
        WhiteWanted x = Check.table("20;b122,b733");
        for (int number = 1; number <= 5; number++) x.see(1, 2, 1, 20);
        x.see(1, 2, 3, 20);
        return x;
    }

    private static void kinds(String text, int direction, int strength, int cell, int due) {
        WhiteWanted x = Check.table(text);
        check.due("see", x.see(1, direction, strength, cell), 1);
        check.due(text + ": kinds by " + direction + ", " + strength + " to " + cell, x.ball(1, 3), due);
    }

    /** "KINDS it can be of .. so that all that is SEEN of it is so: as bits" */
    private static void kindsByOneThatIsSeen() {
        int[] ends = {26, 23, 25, 21};
        int[] due = {1 | 8, 2, 4, 16};
        for (int number = 0; number < ends.length; number++) kinds("20;b122", 2, 9, ends[number], due[number]);
        // hit with nothing: only a light one goes on
        kinds("20;b122", 2, 2, 20, 1 | 2 | 8 | 16);
        kinds("20;b122", 2, 2, 21, 4);
        // hit with 4, two cells from the cushion: the plain one comes back from it, the dead one does not
        kinds("22;b126", 2, 8, 25, 1 | 16);
        kinds("22;b126", 2, 8, 26, 2 | 8);
        kinds("22;b126", 2, 8, 24, 4);
    }

    /** "would come to lie in a CELL, or be POTTED (NONE)" */
    private static void kindsByPotting() {
        kinds("22;b711", 7, 1, Check.NONE, 4);
        kinds("22;b711", 7, 1, 10, 1 | 2 | 8 | 16);
        kinds("22;b711", 7, 2, Check.NONE, 1 | 4 | 8);
        kinds("22;b711", 7, 3, Check.NONE, 1 | 2 | 4 | 8);
        kinds("22;b711", 7, 4, 10, 16);
        kinds("22;b711", 7, 5, Check.NONE, 31);
    }

    /** KINDS when nothing is SEEN of it, or nothing that tells. */
    private static void kindsOfAll() {
        check.due("nothing seen", Check.table("20;b122").ball(1, 3), 31);
        kinds("20;b122", 2, 1, 20, 31);
        check.due("seen of another", sixSeen().ball(2, 3), 31);
    }

    /** KINDS when none is so. */
    private static void kindsOfNone() {
        kinds("20;b122", 2, 9, 24, 0);
        kinds("20;b122", 2, 9, Check.NONE, 0);
        kinds("20;b122", 2, 1, 21, 0);
        WhiteWanted x = Check.table("20;b122");
        x.see(1, 2, 9, 23);
        x.see(1, 2, 9, 25);
        check.due("one or the other", x.ball(1, 3), 0);
    }

    /** "all that is SEEN of it": the first of six, and the last. */
    private static void kindsByEachOfSix() {
        for (int telling = 1; telling <= 6; telling++) {
            WhiteWanted x = Check.table("20;b122,b733");
            for (int number = 1; number <= 6; number++) x.see(number == telling ? 1 : 2, 2, 9, 23);
            check.due("the one that tells is " + telling, x.ball(1, 3), 2);
        }
        check.tells("six of one", SIX, x -> x.ball(1, 3), 2 | 16);
    }

    /** "on this TABLE", "all else as it is" */
    private static void kindsAllElseAsItIs() {
        WhiteWanted x = Check.table("20;h121,b122");
        x.see(2, 2, 5, 21);
        check.due("behind a heavy one", x.ball(2, 3), 1 | 8);
        x.change(2, 4);
        check.due("its own kind does not matter", x.ball(2, 3), 1 | 8);
        x.change(1, 0);
        check.due("behind a plain one", x.ball(2, 3), 2);
        x.lift(1);
        check.due("with none between", x.ball(2, 3), 2);
        x.put(0, 19);
        check.due("from nearer", x.ball(2, 3), 16);
        check.due("its kind is as it was", x.ball(2, 0), 4);
        check.due("seen all the time", x.count(9), 1);
    }

    /** A BALL that is off: it does not come to lie in any CELL. */
    private static void kindsOfOneThatIsOff() {
        WhiteWanted x = Check.table("20;b122,b733");
        x.lift(1);
        check.due("see one that is off", x.see(1, 2, 9, Check.NONE), 1);
        check.due("any kind", x.ball(1, 3), 31);
        check.due("in any direction", x.ball(1, 4), 0);
        check.due("see it lie", x.see(1, 2, 9, 23), 2);
        check.due("no kind", x.ball(1, 3), 0);
    }

    /** "that by a STROKE without SPIN": the white does not come back to the one behind it. */
    private static void kindsWithoutSpin() {
        WhiteWanted x = Check.table("24;d125,b123");
        check.due("with spin it is hit", x.would(2, 9, 2, 11), 18);
        x.see(2, 2, 9, 21);
        check.due("without it lies", x.ball(2, 3), 31);
        check.due("and no stroke without tells of it but in direction 6", x.ball(2, 4), 6);
    }

    /** TRY: "of like ones the least" */
    private static void tryOfLikeOnes() {
        // all but 2 and, off the cushion, 6 miss it
        check.due("2 of 2 and 6", Check.table("20;b122").ball(1, 4), 2);
        WhiteWanted one = Check.table("20;b122");
        check.due("ahead of it", one.ball(1, 4), 2);
        one.see(1, 2, 9, 23);
        check.due("one kind left", one.ball(1, 4), 0);
        WhiteWanted two = Check.table("20;b122");
        two.see(1, 2, 9, 26);
        check.due("two that none tells apart", two.ball(1, 4), 0);
        check.due("potted whatever it is", Check.table("22;b711").ball(1, 4), 0);
    }

    /** "of STRENGTH 6 without SPIN, so that fewest of these are left at worst, by where the BALL lies then" */
    private static void tryThatTellsMost() {
        WhiteWanted x = Check.table("20;b122");
        x.see(1, 2, 3, 20);
        check.due("heavy or stone", x.ball(1, 3), 2 | 16);
        check.due("2 tells them apart", x.ball(1, 4), 2);
        WhiteWanted y = Check.table("24;b127");
        y.see(1, 2, 4, 26);
        check.due("plain or dead, or a light one", y.ball(1, 3), 1 | 8 | 4);
        check.due("2 tells the dead one, off the cushion", y.ball(1, 4), 2);
        WhiteWanted z = Check.table("25;b127");
        z.see(1, 2, 3, 26);
        check.due("not heavy, no stone", z.ball(1, 3), 1 | 4 | 8);
        z.see(1, 2, 4, 26);
        check.due("plain or dead", z.ball(1, 3), 1 | 8);
        check.due("2 tells them apart", z.ball(1, 4), 2);
        z.forget();
        z.see(1, 2, 4, 25);
        z.see(1, 2, 9, 26);
        check.due("a stone", z.ball(1, 3), 16);
        check.due("nothing more to tell", z.ball(1, 4), 0);
    }

    /** TRY: "of STRENGTH 6", with which it is just HIT in the sixth CELL, and not in the seventh. */
    private static void tryOfStrengthSix() {
        check.due("with nothing, which tells a light one", Check.table("20;b126").ball(1, 4), 2);
        check.due("it does not come there", Check.table("20;b127").ball(1, 4), 0);
    }

    /** TRY: "none, if there are none." */
    private static void tryOfNone() {
        WhiteWanted x = Check.table("20;b122");
        x.see(1, 2, 9, 24);
        check.due("try", x.ball(1, 4), Check.NONE);
        x.forget();
        check.due("try when it is forgotten", x.ball(1, 4), 2);
        check.due("the white", x.ball(0, 4), Check.NONE);
    }

    /** see(): "UNKNOWN: ball (not THE WHITE), cell (NONE: POTTED)", ahead of OUTSIDE. */
    private static void seenThatNamesNothing() {
        for (int ball : new int[] {0, -1, 5, 6, 7, LEAST, MOST}) {
            check.refused("see(" + ball + ", ..)", BUSY, x -> x.see(ball, 2, 9, 20), Check.UNKNOWN);
            check.refused("see(" + ball + ", 8, ..)", BUSY, x -> x.see(ball, 8, 0, 20), Check.UNKNOWN);
        }
        for (int cell : new int[] {-2, 45, LEAST, MOST}) {
            check.refused("see(.., " + cell + ")", BUSY, x -> x.see(1, 2, 9, cell), Check.UNKNOWN);
            check.refused("see(8, .., " + cell + ")", BUSY, x -> x.see(1, 8, 0, cell), Check.UNKNOWN);
        }
    }

    /** see(): "OUTSIDE: direction (0 to 7), strength (1 to 9)" */
    private static void seenOutside() {
        for (int direction : new int[] {-1, 8, LEAST, MOST}) {
            check.refused("see(1, " + direction + ", ..)", BUSY, x -> x.see(1, direction, 9, 20), Check.OUTSIDE);
        }
        for (int strength : new int[] {-1, 0, 10, LEAST, MOST}) {
            check.refused("see(1, 2, " + strength + ", ..)", BUSY, x -> x.see(1, 2, strength, 20), Check.OUTSIDE);
        }
        WhiteWanted x = Check.busy();
        check.due("the least", x.see(1, 0, 1, Check.NONE), 3);
        check.due("the greatest", x.see(4, 7, 9, 43), 4);
    }

    /** A POCKET is a CELL: that it came to lie there is SEEN, and of no KIND so. */
    private static void seenInAPocket() {
        for (int cell = 0; cell <= 44; cell++) {
            if (!Check.isPocket(cell)) continue;
            kinds("22;b711", 7, 5, cell, 0);
        }
    }

    /** "SEEN (6 at most)", "FULL" behind UNKNOWN and OUTSIDE. */
    private static void seenSixAtMost() {
        WhiteWanted x = Check.table("20;b122,b733");
        for (int number = 1; number <= 6; number++) {
            check.due("see " + number, x.see(1 + number % 2, 2, 1, 20), number);
            check.due("seen", x.count(9), number);
        }
        check.refused("see 7", SIX, y -> y.see(1, 2, 9, 26), Check.FULL);
        check.refused("see 7 of another", SIX, y -> y.see(2, 2, 9, Check.NONE), Check.FULL);
        check.refused("see 7, ball 0", SIX, y -> y.see(0, 2, 9, 26), Check.UNKNOWN);
        check.refused("see 7, cell 45", SIX, y -> y.see(1, 2, 9, 45), Check.UNKNOWN);
        check.refused("see 7, direction 8", SIX, y -> y.see(1, 8, 9, 26), Check.OUTSIDE);
        check.refused("see 7, strength 10", SIX, y -> y.see(1, 2, 10, 26), Check.OUTSIDE);
    }

    /** "Nothing is SEEN any more: how much was." */
    private static void forgetOfAny() {
        check.due("forget, no table", new WhiteWanted().forget(), 0);
        for (int seen = 0; seen <= 6; seen++) {
            WhiteWanted x = Check.table("20;b122");
            for (int number = 0; number < seen; number++) x.see(1, 2, 9, 23);
            check.due("forget of " + seen, x.forget(), seen);
            check.due("seen then", x.count(9), 0);
            check.due("any kind", x.ball(1, 3), 31);
            check.due("forget again", x.forget(), 0);
            check.due("see then", x.see(1, 2, 9, 25), 1);
            check.due("what is seen then", x.ball(1, 3), 4);
        }
    }

    private static void frames(String text, int strokes, int seed, int... due) {
        for (int number = 0; number <= 2; number++) {
            int what = number;
            check.tells(text + ": frames(" + strokes + ", " + seed + ", " + what + ")",
                () -> Check.table(text), x -> x.frames(strokes, seed, what), due[what]);
        }
    }

    /** "1103515245 times it and 12345, its rest by 2 to the 31": also of the greatest SEED. */
    private static void framesByTheirSeed() {
        // of 0 the first stroke is (0, 4, 1), which pots it; (5, 7, 1), (5, 5, 2) miss
        frames("24;b714", 1, 0, 1007, 0, 654583775);
        frames("24;b714", 2, 0, 1003, 0, 1109335178);
        frames("24;b714", 3, 0, 999, 0, 794471793);
        // a heavy one from two cells: by no strength less than 4; the white goes on by 1, and hits the other then
        frames("34;h714", 1, 0, 1007, 0, 654583775);
        frames("34;h714,b123", 2, 0, 1007, 1, 1109335178);
        // of 1 it is (6, 8, 0)
        frames("24;b714", 1, 1, 996, 1, 662824084);
        frames("22;b121", 1, 1, 1000, 1, 662824084);
        // of the greatest it is (1, 9, 1): the white follows into the pocket
        frames("22;b713", 1, MOST, 1003, 0, 646343466);
        frames("22;b713", 2, MOST, 999, 0, 1849869457);
    }

    /** "strokes (1 to 60)" */
    private static void framesOfOneAndOfSixty() {
        frames("24;b714", 60, 0, 1007 - 4 * 59, 0, 1458640444);
        frames("22;b713", 60, MOST, 1003 - 4 * 59, 0, 17220203);
        WhiteWanted x = Check.table("22;b711");
        x.lift(1);
        check.due("sixty fouls", x.frames(60, 1, 0), 760);
        check.due("no ball", x.frames(60, 1, 1), 0);
        check.due("the seed", x.frames(60, 1, 2), 752577037);
    }

    /** "as they would be", "from the TABLE as it is" */
    private static void framesChangeNothing() {
        check.tells("frames beside all that was", BUSY, x -> x.frames(60, 7, 2), Check.table("22;b711").frames(60, 7, 2));
        WhiteWanted x = Check.table("22;b145,b714");
        x.put(0, 22);
        check.due("from where the white is", x.frames(1, 0, 0), 1007);
        check.due("the other lies", x.frames(1, 0, 1), 1);
        x.lift(1);
        check.due("one that is off does not", x.frames(1, 0, 1), 0);
        x.stroke(0, 4, 1);
        check.due("what was brought before is not told", x.frames(1, 0, 0), 996);
    }

    /** frames(): "OUTSIDE: strokes (1 to 60), seed (0 at least), what; STATE: no TABLE." */
    private static void framesRefused() {
        int[][] wrong = {{0, 1, 0}, {61, 1, 0}, {-1, 1, 0}, {LEAST, 1, 0}, {MOST, 1, 0},
            {1, -1, 0}, {1, LEAST, 0}, {1, 1, -1}, {1, 1, 3}, {1, 1, LEAST}, {1, 1, MOST}};
        for (int[] w : wrong) {
            String call = "frames(" + w[0] + ", " + w[1] + ", " + w[2] + ")";
            check.refused(call, BUSY, x -> x.frames(w[0], w[1], w[2]), Check.OUTSIDE);
            check.refused("new " + call, WhiteWanted::new, x -> x.frames(w[0], w[1], w[2]), Check.OUTSIDE);
        }
        check.refused("new frames(60, 0, 2)", WhiteWanted::new, x -> x.frames(60, 0, 2), Check.STATE);
    }
}
