import java.util.Arrays;

/** TURNS and MOODS (promises 20 to 25) at their edges; above each test, the sentence that it holds. */
public final class TurnEdgeTest extends Edges {
    private static final int ALL_PACES = 511;

    public static void main(String[] args) {
        turnBounds();
        turnEightAtMost();
        turnFullChangesNothing();
        turnThereOrNot();
        forgetTellsHowMany();
        forgetKeepsAllElse();
        pacesBounds();
        pacesOfNoTurns();
        pacesAsBits();
        pacesOfOneReaderAndKind();
        pacesOfAllTurns();
        pacesAllElseAsTold();
        pacesOfChaptersThatThereAre();
        pacesSkippedOrNot();
        unlikeCounts();
        unlikeByOneMinute();
        unlikeOfNoChapter();
        unlikeSkippedOrNot();
        doneBounds();
        doneOfFour();
        doneOfNothing();
        doneByTheMinute();
        doneByQuarters();
        doneOfEachByItself();
        doneInLowestTerms();
        doneOfGreatest();
        doneAfterAnother();
        meanBounds();
        meanOfFour();
        meanOfNothing();
        meanByQuarters();
        meanInLowestTerms();
        meanOfGreatest();
        meanAfterAnother();
        end();
    }

    private static void dueDone(String what, OneBook x, int readers, int minute, long above, long below) {
        due(what + ", above", x.done(readers, minute, 0), above);
        due(what + ", below", x.done(readers, minute, 1), below);
    }

    private static void dueMean(String what, OneBook x, int readers, long above, long below) {
        due(what + ", above", x.mean(readers, 0), above);
        due(what + ", below", x.mean(readers, 1), below);
    }

    private static boolean isFull(int readers) {
        return Integer.bitCount(readers) > 3;
    }

    // ---- 20

    /** "a CHAPTER (0 to 7)"; "a set of READERS (bits)"; "so many minutes (0 to 999)"; "BAD (readers 1 to 63)". */
    private static void turnBounds() {
        bounds("20 chapter", 0, 7, (x, v) -> x.turn(v, 1, 1), BAD);
        bounds("20 readers", 1, 63, (x, v) -> x.turn(0, v, 1), BAD);
        bounds("20 minutes", 0, 999, (x, v) -> x.turn(0, 1, v), BAD);
    }

    /** "TURNS, 8 at most"; "how many". */
    private static void turnEightAtMost() {
        OneBook x = new OneBook();
        for (int i = 1; i <= 8; i++) {
            due("20 turn " + i, x.turn(i - 1, 63, 999), i);
            due("20 told", x.count(5), i);
        }
        due("20 the ninth", x.turn(0, 1, 0), FULL);
        due("20 still eight", x.count(5), 8);
        due("20 forgotten", x.forget(), 8);
        due("20 room again", x.turn(0, 1, 0), 1);
    }

    /** "BAD ..; FULL." */
    private static void turnFullChangesNothing() {
        refused("20 full", Scene.EIGHT, x -> x.turn(0, 1, 1), FULL);
        refused("20 full", Scene.EIGHT, x -> x.turn(7, 63, 999), FULL);
        // The bounds are held in EIGHT too, where TURNS are full: there BAD comes before FULL.
        refused("20 full, and bad", Scene.EIGHT, x -> x.turn(8, 1, 1), BAD);
        refused("20 full, and bad", Scene.EIGHT, x -> x.turn(0, 0, 1), BAD);
        refused("20 full, and bad", Scene.EIGHT, x -> x.turn(0, 1, 1000), BAD);
    }

    private static void turnThereOrNot() {
        OneBook x = new OneBook();
        due("20 of no chapter", x.turn(7, 1, 3), 1);
        due("20 unlike", x.unlike(), 1);
        typeAll(x, chapters("p09", 8));
        due("20 there now", x.unlike(), 0);
        due("20 of its pace", x.paces(0, 0), 0b000001100);
    }

    // ---- 21

    /** "All TURNS are forgotten: how many." */
    private static void forgetTellsHowMany() {
        for (int n = 0; n <= 8; n++) {
            OneBook x = book("p12");
            for (int i = 0; i < n; i++) {
                x.turn(0, 1, 998);
            }
            due("21 had " + n, x.forget(), n);
            due("21 none left", x.forget(), 0);
            due("21 told", x.count(5), 0);
            due("21 none unlike", x.unlike(), 0);
            due("21 all paces", x.paces(0, 0), ALL_PACES);
        }
    }

    private static void forgetKeepsAllElse() {
        OneBook x = Scene.RICH.make();
        x.forget();
        x.turn(0, 3, 10);
        x.turn(3, 9, 3);
        x.turn(6, 1, 7);
        due("21 keeps all else", Arrays.equals(shown(x), shown(Scene.RICH.make())) ? 1 : 0, 1);
        OneBook found = new OneBook();
        found.lose(0);
        found.forget();
        due("21 keeps the latest finding", found.count(8), 1);
    }

    // ---- 22

    /** "BAD." */
    private static void pacesBounds() {
        bounds("22 reader", 0, 5, (x, v) -> x.paces(v, 0), BAD);
        bounds("22 kind", 0, 2, (x, v) -> x.paces(0, v), BAD);
        onlyAsks("22 asked", x -> x.paces(0, 0));
    }

    private static void pacesOfNoTurns() {
        for (OneBook x : new OneBook[] {new OneBook(), book("p12;v12;d12")}) {
            for (int i = 0; i < 18; i++) {
                due("22 no turns", x.paces(i / 3, i % 3), ALL_PACES);
            }
        }
    }

    /** "as bits (PACE 1: bit 0)". */
    private static void pacesAsBits() {
        int[] minutes = {72, 36, 24, 18, 15, 12, 11, 9, 8};
        for (int v = 1; v <= 9; v++) {
            OneBook x = book("d72");
            x.turn(0, 32, minutes[v - 1]);
            due("22 only pace " + v, x.paces(5, 2), 1 << (v - 1));
        }
        int[] none = {0, 7, 10, 73, 999};
        for (int m : none) {
            OneBook x = book("d72");
            x.turn(0, 32, m);
            due("22 no pace for " + m, x.paces(5, 2), 0);
        }
        OneBook x = book("d01");
        x.turn(0, 32, 1);
        due("22 any pace", x.paces(5, 2), ALL_PACES);
    }

    /** "of CHAPTERS of that KIND ..., with that READER in the set". */
    private static void pacesOfOneReaderAndKind() {
        OneBook x = book("p12;v12");
        x.turn(0, 0b100010, 0);
        for (int r = 0; r < 6; r++) {
            for (int kind = 0; kind < 3; kind++) {
                boolean told = kind == 0 && (r == 1 || r == 5);
                due("22 reader " + r + ", kind " + kind, x.paces(r, kind), told ? 0 : ALL_PACES);
            }
        }
    }

    /** "all TURNS": each of eight. */
    private static void pacesOfAllTurns() {
        for (int odd = 0; odd < 8; odd++) {
            OneBook x = book("p12;p12");
            for (int i = 0; i < 8; i++) {
                x.turn(i % 2, 1, i == odd ? 12 : 4);
            }
            due("22 turn " + odd + " is unlike the others", x.paces(0, 0), 0);
        }
    }

    /** "all else as told": the others' PACES, one's own LIKES. */
    private static void pacesAllElseAsTold() {
        OneBook x = book("p12");
        x.turn(0, 3, 4);
        due("22 the other one just as long", x.paces(0, 0), 0b111111100);
        x.pace(1, 0, 4);
        due("22 the other one is faster", x.paces(0, 0), 0b000000100);
        x.pace(1, 0, 2);
        due("22 the other one is slower", x.paces(0, 0), 0);
        x.pace(1, 0, 4);
        x.pace(0, 0, 9);
        due("22 not by the pace that one has", x.paces(0, 0), 0b000000100);
        x.like(0, 0, 1);
        due("22 twice", x.paces(0, 0), 0b111100000);
        x.like(1, 0, 1);
        due("22 the other one twice", x.paces(0, 0), 0);
    }

    /** "CHAPTERS ... that there are". */
    private static void pacesOfChaptersThatThereAre() {
        OneBook x = book("p12;p12");
        x.turn(2, 1, 999);
        x.turn(7, 1, 0);
        due("22 of chapters that there are not", x.paces(0, 0), ALL_PACES);
        x.turn(1, 1, 4);
        due("22 of the last one", x.paces(0, 0), 0b000000100);
        typeAll(x, ";");
        due("22 with a fault", x.paces(0, 0), ALL_PACES);
        typeAll(x, "p12");
        due("22 one more", x.paces(0, 0), 0);
    }

    /** "(SKIPPED or not)". */
    private static void pacesSkippedOrNot() {
        OneBook x = book("p12");
        x.turn(0, 1, 4);
        x.skip(0, 1);
        due("22 skipped", x.paces(0, 0), 0b000000100);
        x.forget();
        x.turn(0, 1, 0);
        due("22 skipped, in no time", x.paces(0, 0), 0);
    }

    // ---- 23

    /** "how many": none to eight. */
    private static void unlikeCounts() {
        OneBook x = book("p12");
        due("23 no turns", x.unlike(), 0);
        for (int i = 1; i <= 8; i++) {
            x.turn(0, 1, 5);
            due("23 of " + i, x.unlike(), i);
        }
        x.pace(0, 0, 3);
        x.pace(1, 0, 1);
        due("23 another's pace", x.unlike(), 8);
        x.forget();
        for (int i = 1; i <= 8; i++) {
            x.turn(0, 1, 4);
            due("23 as told, of " + i, x.unlike(), 0);
        }
        onlyAsks("23 asked", OneBook::unlike);
    }

    private static void unlikeByOneMinute() {
        OneBook x = book("p12;v99");
        x.pace(1, 0, 2);
        int[] minutes = {0, 5, 6, 7, 999};
        for (int m : minutes) {
            x.turn(0, 3, m);
            due("23 in " + m, x.unlike(), m == 6 ? 0 : 1);
            x.forget();
        }
        x.pace(5, 1, 1);
        x.like(5, 1, 1);
        x.turn(1, 63, 198);
        due("23 longest", x.unlike(), 0);
        x.like(5, 1, 0);
        due("23 once", x.unlike(), 1);
    }

    /** "(one of a CHAPTER that there is not, too)". */
    private static void unlikeOfNoChapter() {
        OneBook x = new OneBook();
        x.turn(0, 1, 0);
        x.turn(7, 1, 0);
        due("23 empty", x.unlike(), 2);
        typeAll(x, "p12");
        x.turn(0, 1, 4);
        x.turn(1, 1, 4);
        due("23 one is there", x.unlike(), 3);
        typeAll(x, ";p12");
        due("23 two are there", x.unlike(), 2);
        typeAll(x, ";");
        due("23 with a fault", x.unlike(), 4);
    }

    /** A TURN was read, SKIPPED or not: it is judged by the TIMES, as for PACES. */
    private static void unlikeSkippedOrNot() {
        OneBook x = book("p12");
        x.turn(0, 1, 4);
        x.turn(0, 1, 0);
        due("23 not skipped", x.unlike(), 1);
        x.skip(0, 1);
        due("23 skipped", x.unlike(), 1);
    }

    // ---- 24

    /** "by a minute (0 to 9999)"; "BAD; FULL. (As the least long.)" */
    private static void doneBounds() {
        bounds("24 readers", 1, 63, (x, v) -> x.done(v, 0, 0), BAD_LONG);
        bounds("24 minute", 0, 9999, (x, v) -> x.done(7, v, 0), BAD_LONG);
        bounds("24 what", 0, 1, (x, v) -> x.done(7, 0, v), BAD_LONG);
        onlyAsks("24 asked", x -> x.done(7, 60, 0));
    }

    /** "Of a set of 3 READERS at most (FULL)". */
    private static void doneOfFour() {
        for (int set = 1; set <= 63; set++) {
            due("24 set " + set, new OneBook().done(set, 0, 0), isFull(set) ? FULL_LONG : 1);
            due("24 set " + set, new OneBook().done(set, 9999, 1), isFull(set) ? FULL_LONG : 1);
        }
        refused("24 four", x -> x.done(15, 0, 0), FULL_LONG);
        refused("24 all", x -> x.done(63, 9999, 1), FULL_LONG);
        refused("24 four, and no such minute", x -> x.done(15, 10000, 0), BAD_LONG);
        refused("24 four, and no such minute", x -> x.done(15, -1, 0), BAD_LONG);
        refused("24 four, and no such thing", x -> x.done(15, 0, 2), BAD_LONG);
        refused("24 all, and no such thing", x -> x.done(63, 0, -1), BAD_LONG);
    }

    /** "over all CHAPTERS that are not SKIPPED": of none of them all are read at once. */
    private static void doneOfNothing() {
        OneBook empty = new OneBook();
        OneBook skipped = book("p12;v12");
        skipAll(skipped);
        OneBook faulty = book("p12;");
        for (OneBook x : new OneBook[] {empty, skipped, faulty}) {
            x.reader(0, 2, 3);
            dueDone("24 nothing to read, at once", x, 1, 0, 1, 1);
            dueDone("24 nothing to read, at last", x, 1, 9999, 1, 1);
        }
    }

    /** "all are read by a minute"; "(0 by 1)". */
    private static void doneByTheMinute() {
        OneBook x = book("p12;v12");
        dueDone("24 at once", x, 7, 0, 0, 1);
        dueDone("24 one minute less", x, 7, 7, 0, 1);
        dueDone("24 just so long", x, 7, 8, 1, 1);
        dueDone("24 later", x, 7, 9, 1, 1);
        dueDone("24 last", x, 7, 9999, 1, 1);
        x.skip(1, 1);
        dueDone("24 one skipped, one minute less", x, 7, 3, 0, 1);
        dueDone("24 one skipped, just so long", x, 7, 4, 1, 1);
    }

    /** "a MOOD (0 to 4 quarters": "by so many quarters ... one needs twice the TIME". */
    private static void doneByQuarters() {
        long[][] once = {{1, 1}, {3, 4}, {1, 2}, {1, 4}, {0, 1}};
        for (int mood = 0; mood <= 4; mood++) {
            OneBook x = book("p12");
            x.reader(5, 2, mood);
            dueDone("24 mood " + mood + ", one minute less", x, 32, 3, 0, 1);
            dueDone("24 mood " + mood + ", once", x, 32, 4, once[mood][0], once[mood][1]);
            dueDone("24 mood " + mood + ", nearly twice", x, 32, 7, once[mood][0], once[mood][1]);
            dueDone("24 mood " + mood + ", twice", x, 32, 8, 1, 1);
            dueDone("24 of one without it", x, 1, 4, 1, 1);
        }
    }

    /** "in each CHAPTER by itself"; and of each READER. */
    private static void doneOfEachByItself() {
        OneBook x = book("p12;v12");
        x.reader(0, 2, 2);
        dueDone("24 none twice", x, 1, 8, 1, 4);
        dueDone("24 one twice", x, 1, 12, 3, 4);
        dueDone("24 both twice", x, 1, 16, 1, 1);
        x.reader(1, 2, 2);
        x.reader(2, 2, 2);
        dueDone("24 three, none twice", x, 7, 8, 1, 64);
        dueDone("24 three, one twice", x, 7, 12, 15, 64);
        x.pace(1, 0, 9);
        x.pace(1, 1, 9);
        dueDone("24 one who is fast twice too", x, 3, 8, 1, 4);
    }

    /** "FRACTIONS in lowest terms". */
    private static void doneInLowestTerms() {
        OneBook x = book("p12");
        x.reader(0, 2, 2);
        dueDone("24 8 by 16", x, 3, 4, 1, 2);
        x.reader(0, 2, 1);
        x.reader(1, 2, 2);
        dueDone("24 6 by 16", x, 3, 4, 3, 8);
        x.reader(2, 2, 2);
        dueDone("24 12 by 64", x, 7, 4, 3, 16);
    }

    /** Eight CHAPTERS and three READERS: 48 bits below; 3168 minutes at most. */
    private static void doneOfGreatest() {
        OneBook x = greatest();
        long all = 1L << 48;
        dueDone("24 before the first", x, 7, 1583, 0, 1);
        dueDone("24 the first", x, 7, 1584, power(27, 8), all);
        dueDone("24 before the last", x, 7, 3167, all - power(37, 8), all);
        dueDone("24 the last", x, 7, 3168, 1, 1);
        dueDone("24 after the last", x, 7, 3169, 1, 1);
        dueDone("24 the last minute", x, 7, 9999, 1, 1);
    }

    /** Nothing is left of the MOODS, the CHAPTERS or the minutes of an earlier call. */
    private static void doneAfterAnother() {
        OneBook x = greatest();
        x.done(7, 9999, 0);
        x.done(7, 2000, 0);
        x.pace(1, 0, 2);
        x.pace(2, 0, 3);
        x.done(7, 2000, 0);
        for (int r = 0; r < 3; r++) {
            x.reader(r, 2, 0);
        }
        dueDone("24 without moods, one minute less", x, 7, 1583, 0, 1);
        dueDone("24 without moods", x, 7, 1584, 1, 1);
        dueDone("24 another alone", x, 4, 8 * 66, 1, 1);
        skipAll(x);
        for (int minute : new int[] {1584, 1583, 8 * 66, 1, 0}) {
            dueDone("24 all skipped, by " + minute, x, 7, minute, 1, 1);
        }
    }

    private static OneBook greatest() {
        OneBook x = book(chapters("p99", 8));
        for (int r = 0; r < 3; r++) {
            x.pace(r, 0, 1);
            x.reader(r, 2, 1);
            likeAll(x, r);
        }
        return x;
    }

    private static long power(long base, int times) {
        long all = 1;
        for (int i = 0; i < times; i++) {
            all *= base;
        }
        return all;
    }

    // ---- 25

    /** "BAD; FULL. (As the least long.)" */
    private static void meanBounds() {
        bounds("25 readers", 1, 63, (x, v) -> x.mean(v, 0), BAD_LONG);
        bounds("25 what", 0, 1, (x, v) -> x.mean(7, v), BAD_LONG);
        onlyAsks("25 asked", x -> x.mean(7, 0));
    }

    private static void meanOfFour() {
        for (int set = 1; set <= 63; set++) {
            due("25 set " + set, new OneBook().mean(set, 0), isFull(set) ? FULL_LONG : 0);
            due("25 set " + set, new OneBook().mean(set, 1), isFull(set) ? FULL_LONG : 1);
        }
        refused("25 four", x -> x.mean(15, 0), FULL_LONG);
        refused("25 all", x -> x.mean(63, 1), FULL_LONG);
        refused("25 four, and no such thing", x -> x.mean(15, 2), BAD_LONG);
        refused("25 all, and no such thing", x -> x.mean(63, -1), BAD_LONG);
    }

    /** "(0 by 1)". */
    private static void meanOfNothing() {
        OneBook empty = new OneBook();
        OneBook skipped = book("p12;v12");
        skipAll(skipped);
        OneBook faulty = book("p12;");
        for (OneBook x : new OneBook[] {empty, skipped, faulty}) {
            x.reader(0, 2, 3);
            dueMean("25 nothing to read", x, 7, 0, 1);
        }
    }

    private static void meanByQuarters() {
        long[][] of = {{1, 1}, {5, 4}, {3, 2}, {7, 4}, {2, 1}};
        for (int mood = 0; mood <= 4; mood++) {
            OneBook x = book("p03");
            x.reader(5, 2, mood);
            dueMean("25 mood " + mood, x, 32, of[mood][0], of[mood][1]);
            dueMean("25 of one without it", x, 1, 1, 1);
        }
    }

    private static void meanInLowestTerms() {
        OneBook x = book("p03;v03;d03");
        x.reader(0, 2, 1);
        dueMean("25 15 by 4", x, 1, 15, 4);
        x.skip(2, 1);
        dueMean("25 10 by 4", x, 1, 5, 2);
        typeAll(x, ";p03;p03");
        dueMean("25 20 by 4", x, 1, 5, 1);
        x.reader(1, 2, 1);
        x.reader(2, 2, 1);
        dueMean("25 4 times 101 by 64", x, 7, 101, 16);
    }

    private static void meanOfGreatest() {
        OneBook x = greatest();
        dueMean("25 greatest", x, 7, 1584L * 101 / 16, 4);
        for (int r = 0; r < 3; r++) {
            x.reader(r, 2, 4);
        }
        dueMean("25 always twice", x, 7, 3168, 1);
    }

    private static void meanAfterAnother() {
        OneBook x = greatest();
        x.pace(1, 0, 2);
        x.pace(2, 0, 3);
        x.mean(7, 0);
        for (int r = 0; r < 3; r++) {
            x.reader(r, 2, 0);
        }
        dueMean("25 without moods", x, 7, 1584, 1);
        dueMean("25 another alone", x, 4, 8 * 66, 1);
        x.wipe();
        dueMean("25 of nothing", x, 7, 0, 1);
    }
}
