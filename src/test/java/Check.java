import java.util.Random;
import java.util.function.Supplier;
import java.util.function.ToLongFunction;

/** What the tests share: tables by their text, and a count of the answers that are not as due. */
final class Check {
    static final int NONE = WhiteWanted.NONE, UNKNOWN = WhiteWanted.UNKNOWN, OUTSIDE = WhiteWanted.OUTSIDE;
    static final int STATE = WhiteWanted.STATE, FULL = WhiteWanted.FULL;
    static final int[] ODD = {Integer.MIN_VALUE, -1000, -104, -2, -1, 100, 1000, Integer.MAX_VALUE};

    private int wrong;

    void due(String call, long got, long want) {
        if (got == want) return;
        wrong++;
        if (wrong <= 50) System.out.println(call + " answered " + got + ", due is " + want);
    }

    /** A call that is refused: it answers as due, and changes nothing. */
    void refused(String call, Supplier<WhiteWanted> made, ToLongFunction<WhiteWanted> asked, long want) {
        besideTwin(call, made, asked, want);
    }

    /** A call that only tells: it answers as due, and changes nothing. */
    void tells(String call, Supplier<WhiteWanted> made, ToLongFunction<WhiteWanted> asked, long want) {
        besideTwin(call, made, asked, want);
    }

    // What is unchanged is told by a twin that was not asked; the image shows only when both go back to it.
    private void besideTwin(String call, Supplier<WhiteWanted> made, ToLongFunction<WhiteWanted> asked, long want) {
        WhiteWanted x = made.get(), twin = made.get();
        due(call, asked.applyAsLong(x), want);
        isSo(call + " changes nothing", told(x).equals(told(twin)));
        due(call + ", and restore()", x.restore(), twin.restore());
        isSo(call + " changes nothing of the image", told(x).equals(told(twin)));
    }

    void isSo(String what, boolean so) {
        due(what, so ? 1 : 0, 1);
    }

    /** All that an object tells of itself, but for plan() and safe(), which are counted. */
    static String told(WhiteWanted x) {
        StringBuilder text = new StringBuilder();
        for (int what = 0; what <= 13; what++) text.append(x.count(what)).append(' ');
        for (int ball = 0; ball <= x.count(0); ball++) {
            for (int what = 0; what <= 5; what++) text.append(x.ball(ball, what)).append(' ');
        }
        return text.append(x.fault()).append(' ').append(x.digest()).toString();
    }

    /** An object in which something of everything has been: a refused call has much that it could spoil. */
    static WhiteWanted busy() {
        WhiteWanted x = table("22;b711,s345,l533,d214");
        x.stroke(3, 2, 0);
        x.see(1, 7, 4, NONE);
        x.image();
        x.stroke(0, 1, 0);
        x.put(4, 16);
        x.lift(2);
        x.change(3, 1);
        x.see(3, 3, 3, 3);
        x.plan(0);
        x.safe(0);
        type(x, "20;b");
        return x;
    }

    void end() {
        if (wrong == 0) return;
        System.out.println(wrong + " answers are not as due");
        System.exit(1);
    }

    static void type(WhiteWanted x, String text) {
        for (int i = 0; i < text.length(); i++) x.letter(text.charAt(i));
    }

    static WhiteWanted typed(String text) {
        WhiteWanted x = new WhiteWanted();
        type(x, text);
        return x;
    }

    static WhiteWanted table(String text) {
        WhiteWanted x = typed(text);
        if (x.table() < 0) throw new IllegalStateException(text);
        return x;
    }

    static boolean isPocket(int cell) {
        return cell == 0 || cell == 4 || cell == 8 || cell == 36 || cell == 40 || cell == 44;
    }

    static String randomText(Random random, int balls) {
        boolean[] taken = new boolean[45];
        StringBuilder text = new StringBuilder(place(random, taken));
        for (int ball = 1; ball <= balls; ball++) {
            text.append(ball == 1 ? ';' : ',').append("bhlds".charAt(random.nextInt(5)));
            text.append(1 + random.nextInt(7)).append(place(random, taken));
        }
        return text.toString();
    }

    private static String place(Random random, boolean[] taken) {
        int cell = random.nextInt(45);
        while (taken[cell] || isPocket(cell)) cell = random.nextInt(45);
        taken[cell] = true;
        return "" + cell / 9 + cell % 9;
    }
}
