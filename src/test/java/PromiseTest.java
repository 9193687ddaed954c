/** For each promise of the document: ordinary inputs, the edges that it names, and wrong inputs. */
public final class PromiseTest extends Edges {
    private static final int[] FAR = {LEAST, LEAST + 1, -1000, -2, 1000, 1 << 30, Integer.MAX_VALUE};
    private static final String EIGHT = "p01;v02;d03;p04;v05;d06;p07;v08";

    public static void main(String[] args) {
        newObject();
        type();
        wipe();
        fault();
        chapter();
        pace();
        read();
        like();
        skip();
        reader();
        set();
        time();
        evening();
        waited();
        best();
        how();
        gain();
        rests();
        pairs();
        turn();
        forget();
        paces();
        unlike();
        done();
        mean();
        sheet();
        lose();
        lay();
        get();
        copy();
        write();
        count();
        digest();
        refusalsChangeNothing();
        end();
    }

    // 1
    private static void newObject() {
        OneBook x = new OneBook();
        int[] counts = {0, 0, 0, 0, 0, 0, 120, 60, 0};
        for (int what = 0; what < counts.length; what++) {
            due("1 count " + what, x.count(what), counts[what]);
        }
        due("1 fault", x.fault(), -1);
        for (int s = 0; s < 4; s++) {
            due("1 lost " + s, x.lose(s), -11);
        }
        for (int r = 0; r < 6; r++) {
            for (int kind = 0; kind < 3; kind++) {
                due("1 pace", x.pace(r, kind, 3), 3);
            }
            for (int c = 0; c < 8; c++) {
                due("1 like", x.like(r, c, 0), 0);
            }
            due("1 work", x.reader(r, 0, 0), 0);
            due("1 joy", x.reader(r, 1, 1), 1);
            due("1 mood", x.reader(r, 2, 0), 0);
        }
        for (int c = 0; c < 8; c++) {
            due("1 skip", x.skip(c, 0), 0);
        }
    }

    // 2
    private static void type() {
        OneBook x = new OneBook();
        due("2 below", x.type(-1), -2);
        due("2 above", x.type(256), -2);
        for (int i = 1; i <= 60; i++) {
            due("2 byte " + i, x.type(i == 1 ? 0 : 255), i);
        }
        due("2 full", x.type(112), -4);
        due("2 bad before full", x.type(256), -2);
        due("2 still 60", x.count(1), 60);
    }

    // 3
    private static void wipe() {
        OneBook x = book("p10;v10");
        x.like(2, 1, 1);
        x.skip(0, 1);
        x.pace(2, 1, 7);
        due("3 had", x.wipe(), 7);
        due("3 none", x.wipe(), 0);
        due("3 chapters", x.count(0), 0);
        due("3 fault", x.fault(), -1);
        typeAll(x, "v14;v14");
        due("3 likes stay", x.count(4), 1);
        due("3 skips stay", x.count(3), 1);
        due("3 paces stay", x.time(2, 1), 4);
        OneBook full = new OneBook();
        for (int i = 0; i < 60; i++) {
            full.type('x');
        }
        due("3 full", full.wipe(), 60);
        due("3 room again", full.type('p'), 1);
    }

    // 4
    private static void fault() {
        String[] texts = {"", "p", "p1", "p10", "p10;", "p10;v", "p10;v0", "p10;v00", "p10;v01", "p00", "p0", "p00x",
            "x", ";", "P10", "pp", "p1x", "p1;", "p10p", "p10;;", "p10;q", "p100", "p00;p00", "v99;d99;p09",
            EIGHT, EIGHT + ";", EIGHT + ";p", EIGHT + ";x", EIGHT + "x", EIGHT + ";p01", "p/1", "p1:", "p 1", "p0x",
            "p10;p00;x", " p10"};
        int[] faults = {-1, 1, 2, -1, 4, 5, 6, 5, -1, 1, 2, 1,
            0, 0, 0, 1, 2, 2, 3, 4, 4, 3, 1, -1,
            -1, 32, 32, 32, 31, 32, 1, 2, 1, 2,
            5, 0};
        for (int i = 0; i < texts.length; i++) {
            OneBook x = book(texts[i]);
            due("4 fault of '" + texts[i] + "'", x.fault(), faults[i]);
            int chapters = faults[i] == -1 ? (texts[i].length() + 1) / 4 : 0;
            due("4 chapters of '" + texts[i] + "'", x.count(0), chapters);
        }
        OneBook high = new OneBook();
        high.type(112);
        high.type(177);
        due("4 a byte above 127", high.fault(), 1);
    }

    // 5
    private static void chapter() {
        OneBook x = book("p01;v20;d99");
        int[] lines = {1, 20, 99};
        x.skip(1, 1);
        for (int c = 0; c < 3; c++) {
            due("5 kind", x.chapter(c, 0), c);
            due("5 lines", x.chapter(c, 1), lines[c]);
            due("5 skipped", x.chapter(c, 2), c == 1 ? 1 : 0);
            due("5 what -1", x.chapter(c, -1), -2);
            due("5 what 3", x.chapter(c, 3), -2);
        }
        due("5 not there", x.chapter(3, 0), -2);
        due("5 below", x.chapter(-1, 0), -2);
        for (int far : FAR) {
            due("5 far", x.chapter(far, 0), -2);
        }
        due("5 with a fault", book("p10;").chapter(0, 0), -2);
    }

    // 6
    private static void pace() {
        OneBook x = new OneBook();
        due("6 was", x.pace(5, 2, 9), 3);
        due("6 was", x.pace(5, 2, 1), 9);
        due("6 was", x.pace(5, 2, 1), 1);
        due("6 other", x.pace(5, 1, 1), 3);
        due("6 reader", x.pace(6, 0, 1), -2);
        due("6 reader", x.pace(-1, 0, 1), -2);
        due("6 kind", x.pace(0, 3, 1), -2);
        due("6 kind", x.pace(0, -1, 1), -2);
        due("6 v", x.pace(0, 0, 0), -2);
        due("6 v", x.pace(0, 0, 10), -2);
        due("6 unchanged", x.pace(0, 0, 3), 3);
    }

    // 7
    private static void read() {
        OneBook x = new OneBook();
        due("7 sheet 4", x.read(4, 0), -2);
        due("7 sheet -1", x.read(-1, 0), -2);
        due("7 reader 6", x.read(0, 6), -2);
        due("7 reader -1", x.read(0, -1), -2);
        due("7 no finding", x.count(8), 0);
        due("7 lost", x.read(0, 0), -11);
        due("7 finding", x.count(8), 1);
        for (int form = 0; form < 3; form++) {
            x.sheet(0, form, 5);
            for (int i = 0; i < 5; i++) {
                x.lay(0, form, i, 9 - i - form);
            }
            due("7 all", x.read(0, form), 3);
            due("7 first", x.pace(form, 0, 3), 9 - form);
            due("7 second", x.pace(form, 1, 3), 8 - form);
            due("7 third", x.pace(form, 2, 3), 7 - form);
        }
        x.sheet(1, 2, 3);
        due("7 zero", x.read(1, 4), 0);
        x.lay(1, 2, 0, 1);
        x.lay(1, 2, 1, 9);
        x.lay(1, 2, 2, 10);
        due("7 until ten", x.read(1, 4), 2);
        due("7 one", x.pace(4, 0, 3), 1);
        due("7 nine", x.pace(4, 1, 3), 9);
        due("7 kept", x.pace(4, 2, 3), 3);
        x.lay(1, 2, 0, -1);
        due("7 below", x.read(1, 4), 0);
        x.sheet(2, 0, 0);
        due("7 empty", x.read(2, 4), 0);
        x.sheet(2, 0, 2);
        x.lay(2, 0, 0, 256 + 5);
        x.lay(2, 0, 1, 6);
        due("7 short row", x.read(2, 4), 2);
        due("7 lowest bits", x.pace(4, 0, 3), 5);
    }

    // 8
    private static void like() {
        OneBook x = book("p10");
        due("8 was", x.like(0, 0, 1), 0);
        due("8 twice", x.time(0, 0), 8);
        due("8 other reader", x.time(1, 0), 4);
        due("8 was", x.like(0, 0, 1), 1);
        due("8 was", x.like(0, 0, 0), 1);
        due("8 once", x.time(0, 0), 4);
        due("8 not there", x.like(5, 7, 1), 0);
        due("8 chapter", x.like(0, 8, 1), -2);
        due("8 chapter", x.like(0, -1, 1), -2);
        due("8 reader", x.like(6, 0, 1), -2);
        due("8 reader", x.like(-1, 0, 1), -2);
        due("8 v", x.like(0, 0, 2), -2);
        due("8 v", x.like(0, 0, -1), -2);
    }

    // 9
    private static void skip() {
        OneBook x = book("p10");
        due("9 was", x.skip(0, 1), 0);
        due("9 told", x.chapter(0, 2), 1);
        due("9 was", x.skip(0, 1), 1);
        due("9 was", x.skip(0, 0), 1);
        due("9 told", x.chapter(0, 2), 0);
        due("9 not there", x.skip(7, 1), 0);
        due("9 chapter", x.skip(8, 1), -2);
        due("9 chapter", x.skip(-1, 1), -2);
        due("9 v", x.skip(0, 2), -2);
        due("9 v", x.skip(0, -1), -2);
    }

    // 10
    private static void reader() {
        OneBook x = new OneBook();
        int[] first = {0, 1, 0};
        int[] most = {99, 9, 4};
        for (int what = 0; what < 3; what++) {
            due("10 above", x.reader(5, what, most[what] + 1), -2);
            due("10 below", x.reader(5, what, -1), -2);
            due("10 first", x.reader(5, what, most[what]), first[what]);
            due("10 then", x.reader(5, what, 0), most[what]);
            due("10 other", x.reader(4, what, 2), first[what]);
        }
        due("10 what", x.reader(0, 3, 0), -2);
        due("10 what", x.reader(0, -1, 0), -2);
        due("10 reader", x.reader(6, 0, 0), -2);
        due("10 reader", x.reader(-1, 0, 0), -2);
    }

    // 11
    private static void set() {
        OneBook x = new OneBook();
        due("11 candle", x.set(0, 999), 120);
        due("11 day", x.set(1, 0), 60);
        due("11 candle", x.set(0, 0), 999);
        due("11 day", x.set(1, 999), 0);
        due("11 above", x.set(0, 1000), -2);
        due("11 below", x.set(1, -1), -2);
        due("11 what", x.set(2, 0), -2);
        due("11 what", x.set(-1, 0), -2);
        due("11 told", x.count(6), 0);
        due("11 told", x.count(7), 999);
    }

    // 12
    private static void time() {
        OneBook x = book("p99;v01;d10");
        due("12 cut up", x.time(0, 2), 4);
        due("12 even", x.time(0, 0), 33);
        due("12 one", x.time(0, 1), 1);
        x.pace(0, 0, 1);
        x.like(0, 0, 1);
        due("12 longest", x.time(0, 0), 198);
        x.pace(1, 2, 7);
        x.like(1, 2, 1);
        due("12 twice what is cut up", x.time(1, 2), 4);
        x.skip(2, 1);
        due("12 skipped or not", x.time(1, 2), 4);
        due("12 chapter", x.time(0, 3), -2);
        due("12 chapter", x.time(0, -1), -2);
        due("12 reader", x.time(6, 0), -2);
        due("12 reader", x.time(-1, 0), -2);
    }

    // 13
    private static void evening() {
        OneBook x = book("p30;v08;d21;p09");
        due("13 chapters", x.evening(1, 0, 0), 4);
        due("13 minute", x.evening(1, 0, 1), 23);
        due("13 next", x.evening(1, 0, 2), -1);
        x.pace(1, 1, 1);
        due("13 the slowest", x.evening(3, 0, 1), 28);
        due("13 another set", x.evening(1, 0, 1), 23);
        x.set(0, 18);
        due("13 just so long", x.evening(3, 0, 0), 2);
        due("13 minute", x.evening(3, 0, 1), 18);
        due("13 next", x.evening(3, 0, 2), 2);
        x.set(0, 17);
        due("13 wholly", x.evening(3, 0, 0), 1);
        due("13 minute", x.evening(3, 0, 1), 10);
        due("13 none after one that is too long", x.evening(3, 0, 2), 1);
        x.skip(1, 1);
        due("13 skipped", x.evening(3, 0, 1), 17);
        due("13 next behind", x.evening(3, 0, 2), 3);
        x.skip(3, 1);
        due("13 next skipped", x.evening(3, 0, 2), -1);
        due("13 from skipped", x.evening(3, 1, 0), 1);
        due("13 from last", x.evening(3, 3, 0), 0);
        x.set(0, 0);
        due("13 no candle", x.evening(3, 1, 0), 0);
        due("13 no minute", x.evening(3, 1, 1), 0);
        due("13 next from skipped", x.evening(3, 1, 2), 2);
        due("13 set 0", x.evening(0, 0, 0), -2);
        due("13 set 64", x.evening(64, 0, 0), -2);
        due("13 from", x.evening(1, 4, 0), -2);
        due("13 from", x.evening(1, -1, 0), -2);
        due("13 what", x.evening(1, 0, 3), -2);
        due("13 what", x.evening(1, 0, -1), -2);
    }

    // 14
    private static void waited() {
        OneBook x = book("p12;v12;d12");
        paceAll(x, 0, 1);
        paceAll(x, 1, 2);
        paceAll(x, 2, 4);
        due("14 slowest", x.waited(7, 0, 0, 0), 0);
        due("14 middle", x.waited(7, 0, 1, 0), 18);
        due("14 fastest", x.waited(7, 0, 2, 0), 27);
        due("14 without the slowest", x.waited(6, 0, 2, 0), 9);
        due("14 alone", x.waited(4, 0, 2, 0), 0);
        x.set(0, 24);
        due("14 by the candle", x.waited(7, 0, 2, 0), 18);
        due("14 from", x.waited(7, 2, 2, 0), 9);
        x.skip(0, 1);
        x.skip(1, 1);
        due("14 skipped", x.waited(7, 0, 2, 0), 9);
        due("14 no work", x.waited(7, 0, 2, 1), 0);
        x.reader(2, 0, 99);
        due("14 left", x.waited(7, 0, 2, 1), 90);
        x.reader(2, 0, 9);
        due("14 just done", x.waited(7, 0, 2, 1), 0);
        x.reader(2, 0, 5);
        due("14 more than done", x.waited(7, 0, 2, 1), 0);
        due("14 not in the set", x.waited(3, 0, 2, 0), -2);
        due("14 reader", x.waited(63, 0, 6, 0), -2);
        due("14 reader", x.waited(63, 0, -1, 0), -2);
        due("14 reader by shift", x.waited(63, 0, 32, 0), -2);
        due("14 set", x.waited(0, 0, 0, 0), -2);
        due("14 set", x.waited(64, 0, 0, 0), -2);
        due("14 from", x.waited(1, 3, 0, 0), -2);
        due("14 what", x.waited(1, 0, 0, 2), -2);
        due("14 what", x.waited(1, 0, 0, -1), -2);
    }

    // 15
    private static void best() {
        OneBook x = book("p12;v12;d12");
        paceAll(x, 0, 1);
        paceAll(x, 1, 2);
        due("15 all lines", x.best(0, 1, 0), 36);
        due("15 all by day", x.best(0, 1, 1), 0);
        due("15 no candle", x.best(0, 1, 2), 0);
        x.set(1, 12);
        due("15 one by day", x.best(0, 1, 1), 12);
        due("15 two by the candle", x.best(0, 1, 2), 24);
        x.set(0, 12);
        due("15 one falls out", x.best(0, 1, 0), 24);
        due("15 the least waited", x.best(1, 0, 1), 6);
        x.set(0, 11);
        due("15 none by the candle", x.best(0, 1, 0), 12);
        due("15 no waiting", x.best(0, 1, 1), 0);
        x.set(1, 11);
        due("15 nothing", x.best(0, 1, 0), 0);
        x.set(0, 999);
        x.set(1, 999);
        x.skip(1, 1);
        due("15 skipped", x.best(0, 1, 0), 24);
        due("15 oneself", x.best(3, 3, 0), -2);
        due("15 a", x.best(6, 0, 0), -2);
        due("15 a", x.best(-1, 0, 0), -2);
        due("15 b", x.best(0, 6, 0), -2);
        due("15 b", x.best(0, -1, 0), -2);
        due("15 what", x.best(0, 1, 3), -2);
        due("15 what", x.best(0, 1, -1), -2);
        due("15 empty", new OneBook().best(0, 1, 0), 0);
        OneBook big = book("v99;v99;v99;v99;v99;v99;v99;v99");
        due("15 eight", big.best(0, 1, 0), 396);
    }

    // 16
    private static void how() {
        OneBook x = book("p12;p12;p12");
        x.set(1, 0);
        due("16 together", x.how(0, 1, 2), 0);
        x.set(1, 4);
        due("16 the least row", x.how(0, 1, 0), 0);
        due("16 like all", x.how(0, 1, 2), 0);
        x.pace(0, 0, 2);
        due("16 the least row with a wait", x.how(0, 1, 0), 0);
        x.set(1, 6);
        due("16 the last alone", x.how(0, 1, 2), 1);
        due("16 the first together", x.how(0, 1, 0), 0);
        x.set(0, 6);
        due("16 one by neither", x.how(0, 1, 2), 2);
        due("16 the second alone", x.how(0, 1, 1), 1);
        x.skip(0, 1);
        due("16 skipped", x.how(0, 1, 0), 2);
        due("16 then", x.how(0, 1, 1), 0);
        due("16 then", x.how(0, 1, 2), 1);
        due("16 oneself", x.how(1, 1, 0), -2);
        due("16 reader", x.how(6, 1, 0), -2);
        due("16 reader", x.how(1, -1, 0), -2);
        due("16 chapter", x.how(0, 1, 3), -2);
        due("16 chapter", x.how(0, 1, -1), -2);
    }

    // 17
    private static void gain() {
        OneBook x = book("p12;v12");
        x.pace(0, 0, 2);
        due("17 none", x.gain(0, 1, 0, 0), 0);
        due("17 waits", x.gain(1, 0, 0, 0), -2);
        due("17 slow", x.gain(1, 0, 2, 0), 4);
        due("17 both slow", x.gain(1, 0, 2, 3), 4 - 3 - 1);
        x.reader(1, 1, 9);
        due("17 joy", x.gain(1, 0, 3, 3), 54 - 2);
        x.reader(1, 1, 0);
        due("17 no joy", x.gain(1, 0, 3, 3), -2);
        x.like(0, 1, 1);
        due("17 slow once where one likes it", x.gain(1, 0, 0, 3), -5 - 7);
        x.skip(1, 1);
        due("17 skipped", x.gain(1, 0, 0, 3), -5);
        due("17 oneself", x.gain(1, 1, 0, 0), -10002);
        due("17 a", x.gain(6, 1, 0, 0), -10002);
        due("17 b", x.gain(1, -1, 0, 0), -10002);
        due("17 slow", x.gain(0, 1, 4, 0), -10002);
        due("17 slow", x.gain(0, 1, -1, 0), -10002);
        due("17 slow", x.gain(0, 1, 0, 4), -10002);
        due("17 slow", x.gain(0, 1, 0, -1), -10002);
    }

    // 18
    private static void rests() {
        OneBook x = new OneBook();
        due("18 of an empty book", x.rests(0, 1, -1), 16);
        for (int i = 0; i < 16; i++) {
            due("18 by numbers", x.rests(0, 1, i), i);
        }
        due("18 beyond", x.rests(0, 1, 16), -1);
        due("18 far beyond", x.rests(0, 1, Integer.MAX_VALUE), -1);
        typeAll(x, "p12");
        due("18 joy", x.rests(0, 1, -1), 1);
        due("18 both slow", x.rests(0, 1, 0), 15);
        due("18 beyond", x.rests(0, 1, 1), -1);
        x.reader(0, 1, 0);
        x.reader(1, 1, 0);
        due("18 without joy", x.rests(0, 1, -1), 4);
        for (int i = 0; i < 4; i++) {
            due("18 alike", x.rests(0, 1, i), 5 * i);
        }
        x.pace(0, 0, 4);
        due("18 one ahead", x.rests(0, 1, -1), 4);
        due("18 first is a", x.rests(0, 1, 0), 4);
        due("18 first is b", x.rests(1, 0, 0), 1);
        due("18 below", x.rests(0, 1, -2), -2);
        due("18 oneself", x.rests(1, 1, 0), -2);
        due("18 reader", x.rests(6, 1, 0), -2);
        due("18 reader", x.rests(1, -1, 0), -2);
    }

    // 19
    private static void pairs() {
        OneBook x = book("p60");
        int[] speeds = {1, 2, 3, 1, 2, 3};
        for (int r = 0; r < 6; r++) {
            x.pace(r, 0, speeds[r]);
        }
        due("19 like with like", x.pairs(63, -1), 0);
        for (int r = 0; r < 6; r++) {
            due("19 who", x.pairs(63, r), (r + 3) % 6);
        }
        due("19 two", x.pairs(3, -1), 30);
        due("19 two", x.pairs(3, 1), 0);
        due("19 four", x.pairs(15, -1), 10);
        due("19 four", x.pairs(15, 2), 1);
        x.skip(0, 1);
        due("19 skipped", x.pairs(63, -1), 0);
        for (int r = 0; r < 6; r++) {
            due("19 the least one", x.pairs(63, r), r ^ 1);
        }
        due("19 the least one of those", x.pairs(0b110101, 0), 2);
        due("19 those left", x.pairs(0b110101, 5), 4);
        due("19 odd", x.pairs(7, -1), -3);
        due("19 odd", x.pairs(1, 0), -3);
        due("19 bad before not", x.pairs(7, 3), -2);
        due("19 not in the set", x.pairs(3, 2), -2);
        due("19 reader", x.pairs(63, 6), -2);
        due("19 reader", x.pairs(63, -2), -2);
        due("19 reader by shift", x.pairs(63, 32), -2);
        due("19 set", x.pairs(0, -1), -2);
        due("19 set", x.pairs(64, -1), -2);
        due("19 set", x.pairs(-1, -1), -2);
    }

    // 20
    private static void turn() {
        OneBook x = new OneBook();
        due("20 chapter", x.turn(8, 1, 0), -2);
        due("20 chapter", x.turn(-1, 1, 0), -2);
        due("20 set", x.turn(0, 0, 0), -2);
        due("20 set", x.turn(0, 64, 0), -2);
        due("20 minutes", x.turn(0, 1, 1000), -2);
        due("20 minutes", x.turn(0, 1, -1), -2);
        for (int i = 1; i <= 8; i++) {
            due("20 turn " + i, x.turn(i - 1, 63, i == 1 ? 0 : 999), i);
        }
        due("20 full", x.turn(0, 1, 1), -4);
        due("20 bad before full", x.turn(0, 64, 1), -2);
        due("20 told", x.count(5), 8);
    }

    // 21
    private static void forget() {
        OneBook x = book("p10");
        due("21 none", x.forget(), 0);
        x.turn(0, 1, 99);
        x.turn(0, 2, 99);
        due("21 two", x.forget(), 2);
        due("21 told", x.count(5), 0);
        due("21 unlike", x.unlike(), 0);
        due("21 paces", x.paces(0, 0), 511);
        due("21 again", x.turn(0, 1, 4), 1);
    }

    // 22
    private static void paces() {
        OneBook x = book("p12;v12;p07");
        due("22 all", x.paces(0, 0), 511);
        x.turn(0, 1, 2);
        due("22 some", x.paces(0, 0), 0b111100000);
        due("22 another kind", x.paces(0, 1), 511);
        due("22 another reader", x.paces(1, 0), 511);
        x.turn(2, 1, 1);
        due("22 both", x.paces(0, 0), 0b111000000);
        x.turn(0, 1, 3);
        due("22 none", x.paces(0, 0), 0);
        x.forget();
        x.turn(0, 3, 4);
        due("22 the other one is as slow", x.paces(0, 0), 0b111111100);
        x.pace(1, 0, 9);
        due("22 the other one is faster", x.paces(0, 0), 0b000000100);
        x.pace(1, 0, 2);
        due("22 the other one is too slow", x.paces(0, 0), 0);
        x.pace(1, 0, 9);
        x.like(0, 0, 1);
        due("22 twice", x.paces(0, 0), 0b111100000);
        x.skip(0, 1);
        due("22 skipped or not", x.paces(0, 0), 0b111100000);
        x.turn(7, 1, 0);
        due("22 not there", x.paces(0, 0), 0b111100000);
        due("22 reader", x.paces(6, 0), -2);
        due("22 reader", x.paces(-1, 0), -2);
        due("22 kind", x.paces(0, 3), -2);
        due("22 kind", x.paces(0, -1), -2);
    }

    // 23
    private static void unlike() {
        OneBook x = book("p12;v12");
        due("23 none", x.unlike(), 0);
        x.turn(0, 3, 4);
        due("23 as told", x.unlike(), 0);
        x.turn(1, 3, 5);
        due("23 one", x.unlike(), 1);
        x.turn(2, 3, 4);
        due("23 not there", x.unlike(), 2);
        x.pace(1, 0, 2);
        due("23 slower", x.unlike(), 3);
        x.like(0, 0, 1);
        x.pace(1, 0, 9);
        x.pace(0, 0, 6);
        due("23 twice", x.unlike(), 2);
        x.skip(0, 1);
        due("23 skipped or not", x.unlike(), 2);
        typeAll(x, ";");
        due("23 with a fault", x.unlike(), 3);
    }

    // 24
    private static void done() {
        OneBook x = book("p12;v12");
        due("24 before", x.done(1, 7, 0), 0);
        due("24 0 by 1", x.done(1, 7, 1), 1);
        due("24 then", x.done(1, 8, 0), 1);
        x.reader(0, 2, 1);
        due("24 above", x.done(1, 8, 0), 9);
        due("24 below", x.done(1, 8, 1), 16);
        due("24 one doubled", x.done(1, 12, 0), 15);
        due("24 one doubled", x.done(1, 12, 1), 16);
        due("24 both doubled", x.done(1, 16, 0), 1);
        x.reader(1, 2, 2);
        due("24 two", x.done(3, 8, 0), 9);
        due("24 two", x.done(3, 8, 1), 64);
        x.reader(2, 2, 4);
        due("24 three", x.done(7, 15, 0), 0);
        due("24 three", x.done(7, 16, 0), 1);
        x.skip(1, 1);
        due("24 skipped", x.done(1, 4, 0), 3);
        due("24 skipped", x.done(1, 4, 1), 4);
        x.reader(0, 2, 2);
        due("24 lowest terms", x.done(1, 4, 0), 1);
        due("24 lowest terms", x.done(1, 4, 1), 2);
        x.skip(0, 1);
        due("24 nothing of earlier calls", x.done(1, 4, 0), 1);
        due("24 nothing to read", x.done(1, 0, 0), 1);
        due("24 latest", x.done(1, 9999, 0), 1);
        due("24 minute", x.done(1, 10000, 0), BAD_LONG);
        due("24 minute", x.done(1, -1, 0), BAD_LONG);
        due("24 what", x.done(1, 0, 2), BAD_LONG);
        due("24 what", x.done(1, 0, -1), BAD_LONG);
        due("24 set", x.done(0, 0, 0), BAD_LONG);
        due("24 set", x.done(64, 0, 0), BAD_LONG);
        due("24 four", x.done(0b101011, 0, 0), FULL_LONG);
        due("24 bad before full", x.done(63, 10000, 0), BAD_LONG);
        longestBook();
    }

    /** Eight CHAPTERS by three READERS in unlike MOODS: the greatest numbers below and the last minute. */
    private static void longestBook() {
        OneBook x = book("p99;p99;p99;p99;p99;p99;p99;p99");
        for (int r = 0; r < 3; r++) {
            x.pace(r, 0, 1);
            x.reader(r, 2, 1);
            for (int c = 0; c < 8; c++) {
                x.like(r, c, 1);
            }
        }
        long all = 1L << 48;
        long noneSlow = 1;
        long allSlow = 1;
        for (int c = 0; c < 8; c++) {
            noneSlow *= 27;
            allSlow *= 64 - 27;
        }
        due("24 the shortest", x.done(7, 1584, 0), noneSlow);
        due("24 the shortest", x.done(7, 1584, 1), all);
        due("24 before the longest", x.done(7, 3167, 0), all - allSlow);
        due("24 the longest", x.done(7, 3168, 0), 1);
        due("24 the longest", x.done(7, 3168, 1), 1);
        due("24 later", x.done(7, 9999, 0), 1);
        due("25 the longest", x.mean(7, 0), 8 * 198 * (27 + 2 * 37) / 16);
        due("25 the longest", x.mean(7, 1), 64 / 16);
    }

    // 25
    private static void mean() {
        OneBook x = book("p12;v12");
        due("25 sure", x.mean(1, 0), 8);
        due("25 sure", x.mean(1, 1), 1);
        x.reader(0, 2, 1);
        due("25 mood", x.mean(1, 0), 10);
        x.skip(1, 1);
        due("25 skipped", x.mean(1, 0), 5);
        x.wipe();
        typeAll(x, "p03");
        due("25 above", x.mean(1, 0), 5);
        due("25 below", x.mean(1, 1), 4);
        x.reader(0, 2, 2);
        due("25 lowest terms", x.mean(1, 0), 3);
        due("25 lowest terms", x.mean(1, 1), 2);
        x.reader(0, 2, 1);
        x.reader(1, 2, 1);
        due("25 two", x.mean(3, 0), 23);
        due("25 two", x.mean(3, 1), 16);
        x.wipe();
        due("25 nothing", x.mean(1, 0), 0);
        due("25 nothing", x.mean(1, 1), 1);
        due("25 set", x.mean(0, 0), BAD_LONG);
        due("25 set", x.mean(64, 0), BAD_LONG);
        due("25 what", x.mean(1, 2), BAD_LONG);
        due("25 what", x.mean(1, -1), BAD_LONG);
        due("25 four", x.mean(15, 0), FULL_LONG);
        due("25 bad before full", x.mean(15, 2), BAD_LONG);
    }

    // 26
    private static void sheet() {
        OneBook x = new OneBook();
        due("26 sheet", x.sheet(4, 0, 1), -2);
        due("26 sheet", x.sheet(-1, 0, 1), -2);
        due("26 form", x.sheet(0, 3, 1), -2);
        due("26 form", x.sheet(0, -1, 1), -2);
        due("26 above", x.sheet(0, 0, 61), -2);
        due("26 bad before size", x.sheet(0, 3, -1), -2);
        due("26 no finding", x.count(8), 0);
        due("26 size", x.sheet(0, 0, -1), -15);
        due("26 finding", x.count(8), 5);
        due("26 still lost", x.lose(0), -11);
        due("26 sixty", x.sheet(3, 2, 60), 60);
        x.lay(3, 2, 59, 7);
        due("26 size", x.sheet(3, 2, LEAST), -15);
        due("26 the row stays", x.get(3, 2, 59), 7);
        due("26 new", x.sheet(3, 1, 60), 60);
        due("26 zeros", x.get(3, 1, 59), 0);
        due("26 none", x.sheet(3, 1, 0), 0);
        due("26 no item", x.lay(3, 1, 0, 1), -12);
        due("26 an empty one is not lost", x.lose(3), 0);
    }

    // 27
    private static void lose() {
        OneBook x = new OneBook();
        due("27 sheet", x.lose(4), -2);
        due("27 sheet", x.lose(-1), -2);
        due("27 null", x.lose(2), -11);
        due("27 finding", x.count(8), 1);
        x.sheet(2, 0, 5);
        due("27 five", x.lose(2), 5);
        due("27 null", x.lose(2), -11);
        due("27 null", x.lay(2, 0, 0, 1), -11);
    }

    // 28
    private static void lay() {
        OneBook x = new OneBook();
        due("28 sheet", x.lay(4, 0, 0, 0), -2);
        due("28 sheet", x.lay(-1, 0, 0, 0), -2);
        due("28 form", x.lay(0, 3, 0, 0), -2);
        due("28 form", x.lay(0, -1, 0, 0), -2);
        due("28 null", x.lay(0, 0, 99, 0), -11);
        x.sheet(0, 1, 2);
        due("28 cast before index", x.lay(0, 0, 2, 0), -13);
        due("28 finding", x.count(8), 3);
        due("28 index", x.lay(0, 1, 2, 0), -12);
        due("28 index", x.lay(0, 1, -1, 0), -12);
        due("28 index", x.lay(0, 1, Integer.MAX_VALUE, 0), -12);
        due("28 index", x.lay(0, 1, LEAST, 0), -12);
        due("28 finding", x.count(8), 2);
        int[] laid = {127, 128, 200, 255, 256, -129, 32767, 32768, 65535, 0x12345678, LEAST, -1};
        for (int form = 0; form < 3; form++) {
            x.sheet(0, form, 2);
            for (int v : laid) {
                due("28 laid", x.lay(0, form, 1, v), 1);
                due("28 " + v + " in form " + form, x.get(0, form, 1), form == 0 ? (byte) v : form == 1 ? (short) v : v);
            }
            due("28 the other item", x.get(0, form, 0), 0);
        }
    }

    // 29
    private static void get() {
        OneBook x = new OneBook();
        due("29 sheet", x.get(4, 0, 0), LEAST);
        due("29 sheet", x.get(-1, 0, 0), LEAST);
        due("29 form", x.get(0, 3, 0), LEAST);
        due("29 form", x.get(0, -1, 0), LEAST);
        due("29 no finding", x.count(8), 0);
        due("29 null", x.get(0, 0, 0), LEAST);
        due("29 finding", x.count(8), 1);
        x.sheet(0, 2, 3);
        x.lay(0, 2, 2, -77);
        due("29 item", x.get(0, 2, 2), -77);
        due("29 cast before index", x.get(0, 1, 3), LEAST);
        due("29 finding", x.count(8), 3);
        due("29 index", x.get(0, 2, 3), LEAST);
        due("29 finding", x.count(8), 2);
        x.get(0, 1, 0);
        due("29 index", x.get(0, 2, -1), LEAST);
        due("29 finding", x.count(8), 2);
    }

    // 30
    private static void copy() {
        OneBook x = new OneBook();
        due("30 sheet", x.copy(4, 0, 0, 0, 0), -2);
        due("30 sheet", x.copy(0, 0, -1, 0, 0), -2);
        due("30 both lost", x.copy(0, 0, 1, 0, 0), -11);
        x.sheet(0, 2, 5);
        due("30 t lost", x.copy(0, 0, 1, 0, -1), -11);
        due("30 s lost", x.copy(1, 0, 0, 0, -1), -11);
        x.sheet(1, 1, 5);
        due("30 store before index", x.copy(0, 0, 1, 0, 99), -14);
        due("30 finding", x.count(8), 4);
        x.sheet(1, 2, 3);
        fillInOrder(x, 0, 5);
        due("30 n below", x.copy(0, 0, 1, 0, -1), -12);
        due("30 i below", x.copy(0, -1, 1, 0, 1), -12);
        due("30 j below", x.copy(0, 0, 1, -1, 1), -12);
        due("30 too many in t", x.copy(0, 0, 1, 0, 4), -12);
        due("30 too many in s", x.copy(0, 3, 1, 0, 3), -12);
        due("30 far", x.copy(0, Integer.MAX_VALUE, 1, 0, 3), -12);
        due("30 far", x.copy(0, 1, 1, 1, Integer.MAX_VALUE), -12);
        due("30 far", x.copy(0, 1, 1, 1, LEAST), -12);
        due("30 behind the end", x.copy(0, 6, 1, 0, 0), -12);
        due("30 none at the end", x.copy(0, 5, 1, 3, 0), 1);
        due("30 nothing came", x.get(1, 2, 0), 0);
        due("30 all of t", x.copy(0, 2, 1, 0, 3), 1);
        for (int i = 0; i < 3; i++) {
            due("30 item", x.get(1, 2, i), i + 3);
        }
        due("30 up", x.copy(0, 0, 0, 1, 4), 1);
        due("30 as they were", digits(x, 0, 5), 11234);
        fillInOrder(x, 0, 5);
        due("30 down", x.copy(0, 1, 0, 0, 4), 1);
        due("30 as they were", digits(x, 0, 5), 23455);
    }

    private static void fillInOrder(OneBook x, int s, int n) {
        for (int i = 0; i < n; i++) {
            x.lay(s, 2, i, i + 1);
        }
    }

    private static int digits(OneBook x, int s, int n) {
        int all = 0;
        for (int i = 0; i < n; i++) {
            all = 10 * all + x.get(s, 2, i);
        }
        return all;
    }

    // 31
    private static void write() {
        OneBook x = book("p99;v12;d01");
        due("31 reader", x.write(6, 0), -2);
        due("31 reader", x.write(-1, 0), -2);
        due("31 sheet", x.write(0, 4), -2);
        due("31 sheet", x.write(0, -1), -2);
        due("31 null", x.write(0, 0), -11);
        due("31 finding", x.count(8), 1);
        x.pace(0, 0, 1);
        x.like(0, 0, 1);
        x.skip(1, 1);
        x.sheet(0, 2, 5);
        x.lay(0, 2, 3, 44);
        due("31 chapters", x.write(0, 0), 3);
        due("31 first", x.get(0, 2, 0), 198);
        due("31 skipped or not", x.get(0, 2, 1), 4);
        due("31 third", x.get(0, 2, 2), 1);
        due("31 behind", x.get(0, 2, 3), 44);
        x.sheet(0, 0, 1);
        due("31 items", x.write(0, 0), 1);
        due("31 lowest bits", x.get(0, 0, 0), (byte) 198);
        x.sheet(0, 1, 0);
        due("31 no item", x.write(0, 0), 0);
        x.wipe();
        x.sheet(0, 1, 2);
        due("31 no chapter", x.write(0, 0), 0);
    }

    // 32
    private static void count() {
        OneBook x = book("p10;v20;d30");
        x.skip(0, 1);
        x.skip(2, 1);
        x.skip(3, 1);
        x.like(0, 0, 1);
        x.like(0, 2, 1);
        x.like(5, 1, 1);
        x.like(5, 3, 1);
        x.turn(0, 1, 1);
        x.set(0, 7);
        x.set(1, 8);
        x.copy(0, 0, 0, 0, 0);
        int[] counts = {3, 11, 60, 2, 3, 1, 7, 8, 1};
        for (int what = 0; what < counts.length; what++) {
            due("32 count " + what, x.count(what), counts[what]);
        }
        due("32 below", x.count(-1), -2);
        due("32 above", x.count(9), -2);
        for (int far : FAR) {
            due("32 far", x.count(far), -2);
        }
        x.type('x');
        int[] faulty = {0, 12, 0, 0, 0, 1, 7, 8, 1};
        for (int what = 0; what < faulty.length; what++) {
            due("32 with a fault " + what, x.count(what), faulty[what]);
        }
    }

    // 33
    private static void digest() {
        OneBook x = book("p30;v08;d21;p09;v33");
        x.pace(0, 0, 5);
        x.pace(1, 1, 1);
        x.pace(4, 2, 9);
        x.pace(5, 0, 2);
        x.like(2, 4, 1);
        x.skip(3, 1);
        x.reader(1, 0, 30);
        x.reader(0, 1, 0);
        x.reader(2, 2, 3);
        x.set(0, 40);
        x.set(1, 20);
        x.turn(0, 3, 10);
        due("33 by the calls", x.digest(), DigestSum.of(x).longValue());
        due("33 again", x.digest(), DigestSum.of(x).longValue());
        OneBook empty = new OneBook();
        due("33 empty", empty.digest(), DigestSum.of(empty).longValue());
        empty.lose(0);
        due("33 findings are not in it", empty.digest(), new OneBook().digest());
    }

    private static void refusalsChangeNothing() {
        OneBook x = book("p30;v08;d21");
        x.turn(0, 3, 10);
        x.sheet(0, 0, 3);
        long before = x.digest();
        for (int far : FAR) {
            x.type(far);
            x.pace(far, 0, 1);
            x.pace(0, far, 1);
            x.pace(0, 0, far);
            x.read(far, 0);
            x.read(0, far);
            x.like(far, 0, 1);
            x.like(0, far, 1);
            x.like(0, 0, far);
            x.skip(far, 1);
            x.skip(0, far);
            x.reader(far, 0, 1);
            x.reader(0, far, 1);
            x.reader(0, 0, far);
            x.set(far, 1);
            x.set(0, far);
            x.turn(far, 1, 1);
            x.turn(0, far, 1);
            x.turn(0, 1, far);
            x.sheet(0, far, 1);
            x.sheet(far, 0, 1);
            x.lay(0, 0, far, 1);
            x.copy(0, 0, 0, 0, far);
            x.write(far, 0);
            due("refusals change nothing", x.digest(), before);
        }
        due("the sheet stays", x.lose(0), 3);
    }
}
