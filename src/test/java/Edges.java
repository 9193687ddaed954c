import java.util.Arrays;
import java.util.Collections;

/** What the tests of edges share: answers that are due, bounds of arguments, and refusals that change nothing. */
abstract class Edges {
    static final int BAD = -2;
    static final int NOT = -3;
    static final int FULL = -4;
    static final int NONE = -1;
    static final int NULL = -11;
    static final int INDEX = -12;
    static final int CAST = -13;
    static final int STORE = -14;
    static final int SIZE = -15;
    static final int BAD_NUMBER = -10002;
    static final long BAD_LONG = Long.MIN_VALUE + 2;
    static final long FULL_LONG = Long.MIN_VALUE + 4;
    static final int LEAST = Integer.MIN_VALUE;
    static final int MOST = Integer.MAX_VALUE;

    private static final int MOST_TOLD = 100;

    private static int wrong = 0;
    private static int well = 0;

    interface Call {
        long on(OneBook x);
    }

    interface ArgCall {
        long on(OneBook x, int v);
    }

    static void due(String what, long got, long want) {
        if (got == want) {
            asWell();
            return;
        }
        wrong++;
        if (wrong <= MOST_TOLD) {
            System.out.println(what + " answered " + got + ", due is " + want);
        }
    }

    /** Counts an answer that is as due, where the words for due() would cost too much. */
    static void asWell() {
        well++;
    }

    static void end() {
        System.out.println(wrong == 0 ? well + " answers are as due" : wrong + " answers are not as due");
        if (wrong != 0) {
            System.exit(1);
        }
    }

    static OneBook book(String text) {
        OneBook x = new OneBook();
        typeAll(x, text);
        return x;
    }

    static void typeAll(OneBook x, String text) {
        for (int i = 0; i < text.length(); i++) {
            x.type(text.charAt(i));
        }
    }

    /** One CHAPTER again and again. */
    static String chapters(String one, int n) {
        return String.join(";", Collections.nCopies(n, one));
    }

    static void paceAll(OneBook x, int reader, int v) {
        for (int kind = 0; kind < 3; kind++) {
            x.pace(reader, kind, v);
        }
    }

    static void likeAll(OneBook x, int reader) {
        for (int c = 0; c < 8; c++) {
            x.like(reader, c, 1);
        }
    }

    static void skipAll(OneBook x) {
        for (int c = 0; c < 8; c++) {
            x.skip(c, 1);
        }
    }

    // ---- bounds

    /** In every scene least and most are taken, and the first ones beyond, and far ones, are refused. */
    static void bounds(String what, int least, int most, ArgCall call, long refusal) {
        for (Scene scene : Scene.values()) {
            bounds(what, scene, least, most, call, refusal);
        }
    }

    static void bounds(String what, Scene scene, int least, int most, ArgCall call, long refusal) {
        for (int v : new int[] {least, most}) {
            boolean taken = call.on(scene.make(), v) != refusal;
            due(what + " " + v + " is taken in " + scene, taken ? 1 : 0, 1);
        }
        refusedBeyond(what, scene, least, most, call, refusal);
    }

    /** The first ones beyond; the last numbers of an int; and those that a shift or a cast would mistake for one within. */
    static void refusedBeyond(String what, Scene scene, int least, int most, ArgCall call, long refusal) {
        long[] beyond = {least - 1L, most + 1L, LEAST, LEAST + 1, MOST, MOST - 1, least + 32L, most - 32L, least + 64L,
            least + 256L, most - 256L, least + 65536L, most - 65536L, (long) least + LEAST};
        for (long v : beyond) {
            if (v == (int) v && (v < least || v > most)) {
                refused(what + " " + v, scene, x -> call.on(x, (int) v), refusal);
            }
        }
    }

    // ---- refusals

    /** BAD, NOT or FULL: such is the answer, and nothing has changed, the latest FINDING neither. */
    static void refused(String what, Scene scene, Call call, long want) {
        keepsAll(what, scene, 0, call, want, 0);
        keepsAll(what, scene, 5, call, want, 5);
    }

    static void refused(String what, Call call, long want) {
        for (Scene scene : Scene.values()) {
            refused(what, scene, call, want);
        }
    }

    /** A FINDING: such is the answer, and nothing but count(8) has changed. */
    static void finding(String what, Scene scene, Call call, int want) {
        finding(what, scene, call, want, -10 - want);
    }

    static void finding(String what, Scene scene, Call call, long want, int number) {
        keepsAll(what, scene, 0, call, want, number);
        keepsAll(what, scene, number == 5 ? 1 : 5, call, want, number);
    }

    /** A call that only asks changes nothing in any scene, whatever it answers. */
    static void onlyAsks(String what, Call call) {
        for (Scene scene : Scene.values()) {
            OneBook x = scene.make();
            call.on(x);
            due(what + " keeps count(8) in " + scene, x.count(8), 0);
            keptAs(what, scene, x);
        }
    }

    private static void keepsAll(String what, Scene scene, int before, Call call, long want, int after) {
        OneBook x = scene.make();
        findBefore(x, before);
        due(what + " in " + scene, call.on(x), want);
        due(what + " in " + scene + ": count(8) after " + before, x.count(8), after);
        keptAs(what, scene, x);
    }

    /** SHEET 3 is LOST in every scene, and no row has a size below 0. */
    private static void findBefore(OneBook x, int number) {
        if (number == 1) {
            x.lose(3);
        } else if (number == 5) {
            x.sheet(0, 0, -1);
        }
    }

    private static void keptAs(String what, Scene scene, OneBook x) {
        boolean same = Arrays.equals(shown(x), shown(scene.make()));
        due(what + " keeps all in " + scene, same ? 1 : 0, 1);
    }

    // ---- what later calls show

    private static long[] row = new long[512];
    private static int filled = 0;

    private static void add(long v) {
        row[filled] = v;
        filled++;
    }

    /** All that later calls show of an object, but the latest FINDING; the object is not to be used after it. */
    static long[] shown(OneBook x) {
        filled = 0;
        for (int what = 0; what < 8; what++) {
            add(x.count(what));
        }
        add(x.fault());
        add(x.digest());
        for (int s = 0; s < 4; s++) {
            showSheet(x, s);
        }
        showReaders(x);
        add(x.set(0, 1));
        add(x.set(1, 1));
        add(x.forget());
        add(x.wipe());
        return Arrays.copyOf(row, filled);
    }

    private static void showSheet(OneBook x, int s) {
        int form = -1;
        for (int f = 0; f < 3; f++) {
            x.get(s, f, LEAST);
            add(x.count(8));
            form = x.count(8) == 2 ? f : form;
        }
        for (int i = 0; form >= 0 && i < 60; i++) {
            add(x.get(s, form, i));
        }
        add(x.lose(s));
    }

    private static void showReaders(OneBook x) {
        for (int r = 0; r < 6; r++) {
            for (int i = 0; i < 3; i++) {
                add(x.pace(r, i, 1));
                add(x.reader(r, i, 0));
            }
            for (int c = 0; c < 8; c++) {
                add(x.like(r, c, 0));
            }
        }
        for (int c = 0; c < 8; c++) {
            add(x.skip(c, 0));
        }
    }
}
