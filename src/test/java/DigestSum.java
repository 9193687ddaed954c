import java.math.BigInteger;

/** The digest by the public calls, one by one, as a number that does not wrap. */
final class DigestSum {
    private static BigInteger sum = BigInteger.ZERO;

    private DigestSum() {
    }

    private static void mix(long v) {
        sum = sum.multiply(BigInteger.valueOf(31)).add(BigInteger.valueOf(v));
    }

    /** "h is 17; h becomes 31 h and each of" as the document tells them, without wrapping. */
    static BigInteger of(OneBook x) {
        sum = BigInteger.valueOf(17);
        for (int what = 0; what <= 7; what++) {
            mix(x.count(what));
        }
        mix(x.fault());
        for (int c = 0; c < x.count(0); c++) {
            mixChapter(x, c);
        }
        for (int i = 0; i < 6; i++) {
            mix(i < 3 ? x.best(0, 1, i) : x.best(4, 5, i - 3));
        }
        mix(x.rests(0, 1, OneBook.NONE));
        mix(x.rests(0, 1, 0));
        mix(x.gain(0, 1, 2, 1));
        mix(x.gain(1, 0, 1, 2));
        mix(x.pairs(63, OneBook.NONE));
        for (int r = 0; r < 6; r++) {
            mix(x.pairs(63, r));
            for (int kind = 0; kind < 3; kind++) {
                mix(x.paces(r, kind));
            }
        }
        mix(x.unlike());
        mix(x.done(7, 60, 0));
        mix(x.done(7, 60, 1));
        mix(x.mean(7, 0));
        mix(x.mean(7, 1));
        return sum;
    }

    private static void mixChapter(OneBook x, int c) {
        for (int what = 0; what < 3; what++) {
            mix(x.chapter(c, what));
        }
        for (int r = 0; r < 6; r++) {
            mix(x.time(r, c));
        }
        for (int what = 0; what < 3; what++) {
            mix(x.evening(3, c, what));
        }
        mix(x.waited(3, c, 1, 0));
        mix(x.waited(3, c, 1, 1));
        mix(x.how(0, 1, c));
    }
}
