import java.util.Random;

/**
 * Runs of calls on OneBook and on a plainer program beside it; every answer must be the same. The numbers
 * come from fixed seeds, so a run that fails can be run again.
 */
public final class ModelTest {
    private static final int RUNS = 120;
    private static final int CALLS = 512;
    private static final int[] FAR = {Integer.MIN_VALUE, Integer.MIN_VALUE + 1, -100, -2, -1, 8, 9, 10, 31, 32, 33, 60,
        61, 63, 64, 99, 100, 127, 255, 256, 999, 1000, 9999, 10000, 1 << 30, Integer.MAX_VALUE};

    public static void main(String[] args) {
        int wrong = 0;
        for (int seed = 0; seed < RUNS && wrong == 0; seed++) {
            wrong += runOnce(seed);
        }
        System.out.println(wrong == 0 ? "all runs are as the model's" : "a run is not as the model's");
        if (wrong != 0) {
            System.exit(1);
        }
    }

    private static int runOnce(int seed) {
        Random random = new Random(seed);
        OneBook x = new OneBook();
        Model m = new Model();
        Calls calls = new Calls(x, m, random);
        int left = CALLS;
        for (int i = 0; i < left; i++) {
            if (i % 64 == 0) {
                String text = someText(random);
                calls.same("wipe()", x.wipe(), m.wipe());
                for (char c : text.toCharArray()) {
                    calls.same("type(" + (int) c + ")", x.type(c), m.type(c));
                    left--;
                }
            }
            calls.anyCall();
            if (calls.wrong) {
                System.out.println("seed " + seed + ", call " + i + ": " + calls.last);
                return 1;
            }
        }
        return 0;
    }

    private static String someText(Random random) {
        StringBuilder text = new StringBuilder();
        int chapters = random.nextInt(12) == 0 ? 9 : random.nextInt(9);
        int most = random.nextBoolean() ? 99 : 12;
        for (int c = 0; c < chapters; c++) {
            text.append(c == 0 ? "" : ";").append("pvd".charAt(random.nextInt(3)));
            int lines = 1 + random.nextInt(most);
            text.append(lines / 10).append(lines % 10);
        }
        if (text.length() > 0 && random.nextInt(6) == 0) {
            text.setCharAt(random.nextInt(text.length()), "pvd;0019 x".charAt(random.nextInt(10)));
        }
        return text.toString();
    }

    private static final class Calls {
        final OneBook x;
        final Model m;
        final Random random;
        boolean wrong = false;
        String last = "";

        Calls(OneBook x, Model m, Random random) {
            this.x = x;
            this.m = m;
            this.random = random;
        }

        void same(String call, long got, long want) {
            if (got != want && !wrong) {
                wrong = true;
                last = call + " answered " + got + ", due is " + want;
            }
        }

        /** Mostly least to most, now and then one beside that, or far off. */
        int some(int least, int most) {
            int die = random.nextInt(40);
            if (die == 0) {
                return FAR[random.nextInt(FAR.length)];
            }
            if (die == 1) {
                return random.nextBoolean() ? least - 1 : most + 1;
            }
            return least + random.nextInt(most - least + 1);
        }

        int reader() {
            return some(0, 5);
        }

        int place() {
            return some(0, 7);
        }

        /** Mostly one that there is, where there is one. */
        int chapterThere() {
            return some(0, Math.max(0, m.chapters() - 1));
        }

        int set(int mostReaders) {
            int set = some(1, 63);
            while (random.nextInt(8) != 0 && set > 0 && Integer.bitCount(set) > mostReaders) {
                set &= set - 1;
            }
            return set;
        }

        void anyCall() {
            switch (random.nextInt(9)) {
                case 0: case 1: changeReaders(); break;
                case 2: changeRest(); break;
                case 3: askBook(); break;
                case 4: askEvenings(); break;
                case 5: askSlowAndPairs(); break;
                case 6: turnsAndMoods(); break;
                default: sheets(); break;
            }
            if (random.nextInt(50) == 0) {
                same("digest()", x.digest(), m.digest());
            }
        }

        void changeReaders() {
            int r = reader();
            int k = some(0, 2);
            int c = place();
            switch (random.nextInt(4)) {
                case 0: case 1: {
                    int v = some(1, 9);
                    same("pace(" + r + ", " + k + ", " + v + ")", x.pace(r, k, v), m.pace(r, k, v));
                    break;
                }
                case 2: {
                    int v = some(0, 1);
                    same("like(" + r + ", " + c + ", " + v + ")", x.like(r, c, v), m.like(r, c, v));
                    break;
                }
                default: {
                    int v = some(0, k == 0 ? 99 : k == 1 ? 9 : 4);
                    if (k == 1 && random.nextBoolean()) {
                        v = 0;
                    }
                    same("reader(" + r + ", " + k + ", " + v + ")", x.reader(r, k, v), m.reader(r, k, v));
                    break;
                }
            }
        }

        void changeRest() {
            switch (random.nextInt(5)) {
                case 0: {
                    int c = place();
                    int v = random.nextInt(3) == 0 ? some(0, 1) : 0;
                    same("skip(" + c + ", " + v + ")", x.skip(c, v), m.skip(c, v));
                    break;
                }
                case 1: case 2: case 3: {
                    int what = some(0, 1);
                    int v = some(0, random.nextInt(4) == 0 ? 999 : random.nextBoolean() ? 200 : 40);
                    same("set(" + what + ", " + v + ")", x.set(what, v), m.set(what, v));
                    break;
                }
                default: {
                    if (random.nextInt(4) == 0) {
                        int b = some(0, 255);
                        same("type(" + b + ")", x.type(b), m.type(b));
                    }
                    break;
                }
            }
        }

        void askBook() {
            int r = reader();
            int c = chapterThere();
            int what = some(0, 2);
            same("fault()", x.fault(), m.fault());
            same("chapter(" + c + ", " + what + ")", x.chapter(c, what), m.chapter(c, what));
            same("time(" + r + ", " + c + ")", x.time(r, c), m.time(r, c));
            int count = some(0, 8);
            same("count(" + count + ")", x.count(count), m.count(count));
        }

        void askEvenings() {
            int readers = set(6);
            int from = chapterThere();
            int what = some(0, 2);
            int r = reader();
            int b = reader();
            int c = chapterThere();
            same("evening(" + readers + ", " + from + ", " + what + ")", x.evening(readers, from, what),
                m.evening(readers, from, what));
            int half = some(0, 1);
            same("waited(" + readers + ", " + from + ", " + r + ", " + half + ")", x.waited(readers, from, r, half),
                m.waited(readers, from, r, half));
            if (random.nextInt(3) == 0) {
                same("best(" + r + ", " + b + ", " + what + ")", x.best(r, b, what), m.best(r, b, what));
                same("how(" + r + ", " + b + ", " + c + ")", x.how(r, b, c), m.how(r, b, c));
            }
        }

        void askSlowAndPairs() {
            int a = reader();
            int b = reader();
            int slowA = some(0, 3);
            int slowB = some(0, 3);
            same("gain(" + a + ", " + b + ", " + slowA + ", " + slowB + ")", x.gain(a, b, slowA, slowB),
                m.gain(a, b, slowA, slowB));
            int i = some(-1, random.nextInt(4) == 0 ? 16 : 2);
            same("rests(" + a + ", " + b + ", " + i + ")", x.rests(a, b, i), m.rests(a, b, i));
            int readers = random.nextInt(3) == 0 ? 63 : set(6);
            int who = some(-1, 5);
            same("pairs(" + readers + ", " + who + ")", x.pairs(readers, who), m.pairs(readers, who));
        }

        void turnsAndMoods() {
            int readers = set(3);
            int c = place();
            int r = reader();
            int k = some(0, 2);
            if (random.nextBoolean()) {
                // Mostly as long as it takes, so that some PACES are left.
                int t = random.nextInt(4) == 0 ? some(0, 999) : lengthOf(c, readers);
                same("turn(" + c + ", " + readers + ", " + t + ")", x.turn(c, readers, t), m.turn(c, readers, t));
            }
            if (random.nextInt(12) == 0) {
                same("forget()", x.forget(), m.forget());
            }
            same("paces(" + r + ", " + k + ")", x.paces(r, k), m.paces(r, k));
            same("unlike()", x.unlike(), m.unlike());
            int minute = some(0, random.nextInt(10) == 0 ? 9999 : 400);
            int what = some(0, 1);
            if (random.nextInt(3) == 0) {
                same("done(" + readers + ", " + minute + ", " + what + ")", x.done(readers, minute, what),
                    m.done(readers, minute, what));
                same("mean(" + readers + ", " + what + ")", x.mean(readers, what), m.mean(readers, what));
            }
        }

        int lengthOf(int c, int readers) {
            return c >= 0 && c < m.chapters() && readers >= 1 && readers <= 63 ? m.together(readers, c) : 0;
        }

        void sheets() {
            int s = some(0, 3);
            int t = some(0, 3);
            int form = some(0, 2);
            int i = some(0, 4);
            int j = some(0, 4);
            int r = reader();
            switch (random.nextInt(9)) {
                case 0: {
                    int n = some(0, random.nextInt(4) == 0 ? 60 : 8);
                    same("sheet(" + s + ", " + form + ", " + n + ")", x.sheet(s, form, n), m.sheet(s, form, n));
                    break;
                }
                case 1:
                    if (random.nextInt(5) == 0) {
                        same("lose(" + s + ")", x.lose(s), m.lose(s));
                    }
                    break;
                case 2: case 3: case 4: {
                    int v = random.nextInt(4) == 0 ? random.nextInt() : some(0, 10);
                    same("lay(" + s + ", " + form + ", " + i + ", " + v + ")", x.lay(s, form, i, v), m.lay(s, form, i, v));
                    break;
                }
                case 5:
                    same("get(" + s + ", " + form + ", " + i + ")", x.get(s, form, i), m.get(s, form, i));
                    break;
                case 6: {
                    int n = some(0, 5);
                    same("copy(" + s + ", " + i + ", " + t + ", " + j + ", " + n + ")", x.copy(s, i, t, j, n),
                        m.copy(s, i, t, j, n));
                    break;
                }
                case 7:
                    same("write(" + r + ", " + s + ")", x.write(r, s), m.write(r, s));
                    break;
                default:
                    same("read(" + s + ", " + r + ")", x.read(s, r), m.read(s, r));
                    break;
            }
            same("count(8)", x.count(8), m.count(8));
            for (int q = 0; q < 4; q++) {
                compareSheet(q);
            }
        }

        void compareSheet(int s) {
            int[] row = m.sheets[s];
            if (row != null && row.length > 0 && random.nextInt(3) == 0) {
                int i = random.nextInt(row.length);
                int form = m.forms[s];
                same("get(" + s + ", " + form + ", " + i + ")", x.get(s, form, i), m.get(s, form, i));
            }
        }
    }
}
