import java.util.Random;

/** What the tests share: tables by their text, and a count of the answers that are not as due. */
final class Check {
    static final int NONE = WhiteWanted.NONE, UNKNOWN = WhiteWanted.UNKNOWN, OUTSIDE = WhiteWanted.OUTSIDE;
    static final int STATE = WhiteWanted.STATE, FULL = WhiteWanted.FULL;
    static final int[] ODD = {Integer.MIN_VALUE, -1000, -104, -2, -1, 100, 1000, Integer.MAX_VALUE};

    private int wrong;

    void due(String call, long got, long want) {
        if (got == want) return;
        wrong++;
        if (wrong <= 50) System.out.println(call + " answered " + got + ", due is " + want);
    }

    void end() {
        if (wrong == 0) return;
        System.out.println(wrong + " answers are not as due");
        System.exit(1);
    }

    static void type(WhiteWanted x, String text) {
        for (int i = 0; i < text.length(); i++) x.letter(text.charAt(i));
    }

    static WhiteWanted typed(String text) {
        WhiteWanted x = new WhiteWanted();
        type(x, text);
        return x;
    }

    static WhiteWanted table(String text) {
        WhiteWanted x = typed(text);
        if (x.table() < 0) throw new IllegalStateException(text);
        return x;
    }

    static boolean isPocket(int cell) {
        return cell == 0 || cell == 4 || cell == 8 || cell == 36 || cell == 40 || cell == 44;
    }

    static String randomText(Random random, int balls) {
        boolean[] taken = new boolean[45];
        StringBuilder text = new StringBuilder(place(random, taken));
        for (int ball = 1; ball <= balls; ball++) {
            text.append(ball == 1 ? ';' : ',').append("bhlds".charAt(random.nextInt(5)));
            text.append(1 + random.nextInt(7)).append(place(random, taken));
        }
        return text.toString();
    }

    private static String place(Random random, boolean[] taken) {
        int cell = random.nextInt(45);
        while (taken[cell] || isPocket(cell)) cell = random.nextInt(45);
        taken[cell] = true;
        return "" + cell / 9 + cell % 9;
    }
}
