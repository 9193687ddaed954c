import java.util.Arrays;

/**
 * Each call with all rows of arguments from among edges, on OneBook and on Model: where several arguments are
 * wrong at once, the first refusal that fits is due.
 */
public final class SweepTest extends Edges {
    private static final int[] MANY = {LEAST, -2, -1, 0, 1, 2, 3, 4, 5, 6, 7, 8, 9, 10, 15, 31, 32, 60, 61, 63, 64, 99, 100,
        255, 256, 999, 1000, 9999, 10000, MOST};
    private static final int[] SOME = {LEAST, -2, -1, 0, 1, 2, 3, 4, 5, 6, 15, 60, 61, 63, 64, MOST};
    private static final int[] FEW = {LEAST, -1, 0, 1, 3, 4, 5, 60, MOST};
    private static final String[] CALLS = {"type 1", "wipe 0", "fault 0", "chapter 2", "pace 3", "read 2", "like 3", "skip 2",
        "reader 3", "set 2", "time 2", "evening 3", "waited 4", "best 3", "how 3", "gain 4", "rests 3", "pairs 2", "turn 3",
        "forget 0", "paces 2", "unlike 0", "done 3", "mean 2", "sheet 3", "lose 1", "lay 4", "get 3", "copy 5", "write 2",
        "count 1", "digest 0"};
    /** A scene takes some 80 calls; the object is made anew before its 512th. */
    private static final int CALLS_OF_ONE = 400;

    private static OneBook x = null;
    private static Model m = null;
    private static int left = 0;

    public static void main(String[] args) {
        for (Scene scene : Scene.values()) {
            for (String call : CALLS) {
                String[] words = call.split(" ");
                left = 0;
                sweep(scene, words[0], new int[Integer.parseInt(words[1])], 0);
            }
        }
        end();
    }

    private static int[] edges(int arguments) {
        return arguments < 4 ? MANY : arguments == 4 ? SOME : FEW;
    }

    private static void sweep(Scene scene, String name, int[] arguments, int at) {
        if (at < arguments.length) {
            for (int v : edges(arguments.length)) {
                arguments[at] = v;
                sweep(scene, name, arguments, at + 1);
            }
            return;
        }
        if (left == 0) {
            x = scene.make();
            m = new Model();
            scene.bring(m);
            left = CALLS_OF_ONE;
        }
        left -= 2;
        long got = Face.call(x, name, arguments);
        long want = Face.call(m, name, arguments);
        if (got == want && x.count(8) == m.count(8)) {
            asWell();
            return;
        }
        String call = name + Arrays.toString(arguments) + " in " + scene;
        due(call, got, want);
        due(call + ": count(8)", x.count(8), m.count(8));
    }
}
