import java.util.Random;

/** Promises 22 to 25: image, restore, count, digest; and that refusals change nothing. */
public final class WholeTest {
    private static final Check check = new Check();

    public static void main(String[] args) {
        images();
        imageOfSeen();
        counts();
        digests();
        for (int seed = 0; seed < 300; seed++) anyCalls(new Random(seed));
        check.end();
    }

    private static void images() {
        WhiteWanted x = new WhiteWanted();
        check.due("image, no table", x.image(), Check.STATE);
        check.due("restore, no table", x.restore(), Check.STATE);
        Check.type(x, "22;b711,s345");
        x.table();
        check.due("restore, none kept", x.restore(), Check.STATE);
        x.stroke(0, 1, 0);
        x.see(2, 3, 4, 5);
        check.due("image", x.image(), 1);
        long kept = x.digest();
        x.stroke(7, 2, 0);
        x.change(2, 1);
        x.lift(2);
        x.put(0, 15);
        x.forget();
        x.see(1, 1, 1, 1);
        x.see(1, 1, 1, 1);
        check.due("strokes", x.count(4), 2);
        check.due("restore", x.restore(), 1);
        check.due("all as it was", x.digest(), kept);
        int[] counts = {2, 2, 10, 996, 1, 1, 2, 11, 20, 1};
        for (int what = 0; what < counts.length; what++) check.due("count(" + what + ")", x.count(what), counts[what]);
        check.due("kinds by what was seen", x.ball(2, 3), 0);
        x.stroke(7, 2, 0);
        check.due("restore again", x.restore(), 1);
        check.due("all as it was again", x.digest(), kept);
        x.stroke(7, 2, 0);
        check.due("a later image", x.image(), 2);
        x.stroke(7, 2, 0);
        check.due("restore the later", x.restore(), 2);
        x.plan(0);
        x.letter('x');
        x.restore();
        check.due("plans are not brought back", x.count(12), 1);
        check.due("nor is the page", x.count(10), 1);
        x.blank();
        Check.type(x, "22;b711,s345");
        x.table();
        check.due("another table since", x.restore(), Check.STATE);
        check.due("image of it", x.image(), 0);
        check.due("restore of it", x.restore(), 0);
    }

    private static void imageOfSeen() {
        WhiteWanted x = Check.table("20;b122,b733");
        x.see(1, 2, 9, 23);
        check.due("heavy", x.ball(1, 3), 2);
        x.image();
        x.forget();
        x.see(2, 5, 1, 1);
        check.due("seen of ball 2", x.ball(2, 3), 0);
        x.restore();
        check.due("heavy again", x.ball(1, 3), 2);
        check.due("nothing of ball 2", x.ball(2, 3), 31);
    }

    private static void counts() {
        WhiteWanted x = Check.table("22;b711,s345");
        x.plan(0);
        x.safe(0);
        x.safe(0);
        x.see(1, 2, 3, 4);
        x.put(0, 19);
        x.stroke(4, 1, 0);
        x.letter('2');
        int[] counts = {2, 2, 10, 996, 1, 1, 1, 28, 20, 1, 1, 1, 1, 2};
        for (int what = 0; what < counts.length; what++) check.due("count(" + what + ")", x.count(what), counts[what]);
        check.due("count(14)", x.count(14), Check.OUTSIDE);
        for (int odd : Check.ODD) check.due("count(" + odd + ")", x.count(odd), Check.OUTSIDE);
    }

    private static long digestByHand(WhiteWanted x, String page) {
        long h = 1097;
        if (x.count(11) > 0) {
            for (int ball = 0; ball <= x.count(0); ball++) for (int what = 0; what <= 2; what++) h = 31 * h + x.ball(ball, what);
            h = 31 * h + x.ball(1, 3);
            h = 31 * h + x.ball(1, 4);
            for (int direction = 0; direction < 8; direction++) h = 31 * h + x.sees(direction);
            for (int what = 0; what <= 3; what++) h = 31 * h + x.best(what);
            for (int what = 0; what <= 5; what++) h = 31 * h + x.would(3, 9, 1, what);
        }
        for (int place = 0; place < page.length(); place++) h = 31 * h + page.charAt(place);
        for (int what = 0; what <= 13; what++) h = 31 * h + x.count(what);
        return h;
    }

    private static void digests() {
        check.due("digest of a new one", new WhiteWanted().digest(), 6578831538787750513L);
        check.due("digest of a page", Check.typed("20;").digest(), digestByHand(Check.typed("20;"), "20;"));
        Random random = new Random(4);
        for (int number = 0; number < 100; number++) {
            WhiteWanted x = Check.table(Check.randomText(random, 1 + number % 6));
            x.stroke(random.nextInt(8), 9, 2);
            x.see(1, random.nextInt(8), 5, x.would(random.nextInt(8), 5, 0, 10));
            Check.type(x, "2;~");
            check.due("digest", x.digest(), digestByHand(x, "2;~"));
            check.due("digest again", x.digest(), digestByHand(x, "2;~"));
        }
    }

    private static int odd(Random random, int limit) {
        return random.nextInt(6) == 0 ? Check.ODD[random.nextInt(Check.ODD.length)] : random.nextInt(limit + 1);
    }

    /** Any calls at all: none throws, a refusal changes nothing, and a second object answers alike. */
    private static void anyCalls(Random random) {
        WhiteWanted x = new WhiteWanted(), y = new WhiteWanted();
        for (int number = 0; number < 200; number++) {
            if (random.nextInt(30) == 0) {
                String text = Check.randomText(random, 1 + random.nextInt(6));
                x.blank();
                y.blank();
                Check.type(x, text);
                Check.type(y, text);
            }
            int[] a = {odd(random, 8), odd(random, 9), odd(random, 3), odd(random, 46)};
            int call = random.nextInt(25);
            long before = number % 4 == 0 ? x.digest() : 0;
            long answer = anyCall(x, call, a);
            check.due("call " + call + " twice", anyCall(y, call, a), answer);
            boolean refused = answer <= Check.UNKNOWN && answer >= Check.FULL;
            if (refused && number % 4 == 0) check.due("digest behind a refusal of call " + call, x.digest(), before);
        }
        check.due("digests", x.digest(), y.digest());
    }

    private static long anyCall(WhiteWanted x, int call, int[] a) {
        switch (call) {
            case 0: return x.letter("0123456789;,bhlds".charAt(a[3] & 15));
            case 1: return x.letter(a[3]);
            case 2: return x.fault();
            case 3: return x.table();
            case 4: return x.ball(a[0], a[1]);
            case 5: return x.as(a[0], a[2]);
            case 6: return x.cell(a[3]);
            case 7: return x.sees(a[0]);
            case 8: return x.put(a[0], a[3]);
            case 9: return x.lift(a[0]);
            case 10: return x.change(a[0], a[1]);
            case 11: return x.stroke(a[0], a[1], a[2]);
            case 12: return x.would(a[0], a[1], a[2], a[3]);
            case 13: return x.best(a[2]);
            case 14: return x.plan(a[2]);
            case 15: return x.safe(a[2]);
            case 16: return x.wanted(a[0]);
            case 17: return x.see(a[0], a[0], a[1], a[3]);
            case 18: return x.forget();
            case 19: return x.frames(a[3], a[0], a[2]);
            case 20: return x.image();
            case 21: return x.restore();
            case 22: return x.count(a[3]);
            case 23: return x.digest() & Long.MAX_VALUE;
            default: return x.blank();
        }
    }
}
