/** EVENINGS, BEST, GAIN, RESTS and PAIRS (promises 13 to 19) at their edges; above each test, its sentence. */
public final class EveningEdgeTest extends Edges {
    private static final Scene[] WITHOUT_CHAPTERS = {Scene.FRESH, Scene.FULL};

    public static void main(String[] args) {
        eveningBounds();
        eveningByTheCandle();
        eveningOfEachSet();
        eveningOneBehindTheOther();
        eveningWithSkipped();
        eveningWithoutCandle();
        eveningOfLongest();
        waitedBounds();
        waitedOnlyOfTheSet();
        waitedLessOnesOwn();
        waitedOfEach();
        waitedWhenNothingIsRead();
        workThatIsLeft();
        bestBounds();
        bestOfNothing();
        bestByTheCandle();
        bestByTheDay();
        bestOfSkipped();
        bestIsMostLinesThenLeastWaited();
        bestIsTheLeastRow();
        bestOfEight();
        bestOfAShorterBook();
        howBounds();
        gainBounds();
        gainOfNothing();
        gainOfOneMinute();
        gainExtremes();
        restsBounds();
        restsOfNothing();
        restsOfLikeGains();
        restsFirstAndSecond();
        pairsBounds();
        pairsOfEachSet();
        pairsOfLikeWays();
        pairsThatAllWait();
        pairsExtremes();
        end();
    }

    private static void dueEvening(String what, OneBook x, int readers, int from, int... want) {
        for (int i = 0; i < 3; i++) {
            due(what + ", what " + i, x.evening(readers, from, i), want[i]);
        }
    }

    private static void dueBest(String what, OneBook x, int a, int b, int... want) {
        for (int i = 0; i < 3; i++) {
            due(what + ", what " + i, x.best(a, b, i), want[i]);
        }
    }

    private static void dueRow(String what, OneBook x, int a, int b, String want) {
        StringBuilder row = new StringBuilder();
        for (int c = 0; c < x.count(0); c++) {
            row.append(x.how(a, b, c));
        }
        due(what + ": " + row + ", due is " + want, row.toString().equals(want) ? 1 : 0, 1);
    }

    /** READER 0 needs twelve minutes for twelve LINES, READER 1 six, the others four. */
    private static OneBook slowAndFast(String text) {
        OneBook x = book(text);
        paceAll(x, 0, 1);
        paceAll(x, 1, 2);
        return x;
    }

    // ---- 13

    /** "evenings (readers: 1 to 63)"; "from a CHAPTER on (that there is)"; "BAD". */
    private static void eveningBounds() {
        bounds("13 readers", Scene.RICH, 1, 63, (x, v) -> x.evening(v, 0, 0), BAD);
        bounds("13 from", Scene.RICH, 0, 3, (x, v) -> x.evening(63, v, 0), BAD);
        bounds("13 from", Scene.EIGHT, 0, 7, (x, v) -> x.evening(1, v, 1), BAD);
        bounds("13 what", Scene.RICH, 0, 2, (x, v) -> x.evening(1, 3, v), BAD);
        for (Scene none : WITHOUT_CHAPTERS) {
            refused("13 of none", none, x -> x.evening(1, 0, 0), BAD);
            refused("13 of none", none, x -> x.evening(1, 0, 2), BAD);
        }
        onlyAsks("13 asked", x -> x.evening(63, 0, 1));
    }

    /** "as long as the CANDLE burns (the last one wholly)"; "(0: none)"; "NONE". */
    private static void eveningByTheCandle() {
        for (int candle = 0; candle <= 40; candle++) {
            OneBook x = slowAndFast("p12;v12;d12");
            x.set(0, candle);
            int n = Math.min(3, candle / 12);
            dueEvening("13 by " + candle, x, 63, 0, n, 12 * n, n == 3 ? NONE : n);
        }
    }

    /** "A set of READERS (bits; one at least) reads it TOGETHER in the greatest of their TIMES". */
    private static void eveningOfEachSet() {
        OneBook x = book("p60");
        int[] minutes = {60, 30, 20, 15, 12, 10};
        for (int r = 0; r < 6; r++) {
            x.pace(r, 0, 60 / minutes[r]);
        }
        for (int set = 1; set <= 63; set++) {
            due("13 set " + set, x.evening(set, 0, 1), minutes[Integer.numberOfTrailingZeros(set)]);
        }
    }

    /** "one behind the other": one that would fit does not come before one that does not. */
    private static void eveningOneBehindTheOther() {
        OneBook x = book("p99;p99;p03");
        x.set(0, 40);
        dueEvening("13 too long between", x, 1, 0, 1, 33, 1);
        dueEvening("13 from the last", x, 1, 2, 1, 1, NONE);
        x.set(0, 32);
        dueEvening("13 too long at first", x, 1, 0, 0, 0, 0);
    }

    /** "CHAPTERS that are not SKIPPED"; "the next CHAPTER that there is to read (not SKIPPED; NONE)". */
    private static void eveningWithSkipped() {
        OneBook x = slowAndFast("p12;v12;d12;p12");
        x.set(0, 12);
        x.skip(1, 1);
        dueEvening("13 next behind a skipped one", x, 1, 0, 1, 12, 2);
        dueEvening("13 from a skipped one", x, 1, 1, 1, 12, 3);
        x.skip(2, 1);
        x.skip(3, 1);
        dueEvening("13 all behind are skipped", x, 1, 0, 1, 12, NONE);
        dueEvening("13 from here on all are skipped", x, 1, 1, 0, 0, NONE);
        x.set(0, 11);
        dueEvening("13 too long", x, 1, 0, 0, 0, 0);
        x.skip(0, 1);
        dueEvening("13 all are skipped", x, 1, 0, 0, 0, NONE);
        dueEvening("13 the last is skipped", x, 1, 3, 0, 0, NONE);
        OneBook beyond = book("p12");
        beyond.set(0, 4);
        beyond.skip(1, 1);
        dueEvening("13 skipped where no chapter is", beyond, 1, 0, 1, 4, NONE);
    }

    private static void eveningWithoutCandle() {
        OneBook x = book("p01;v01");
        x.set(0, 0);
        dueEvening("13 no candle", x, 1, 0, 0, 0, 0);
        dueEvening("13 no candle, from the last", x, 1, 1, 0, 0, 1);
        x.skip(0, 1);
        dueEvening("13 no candle, from a skipped one", x, 1, 0, 0, 0, 1);
        x.set(0, 1);
        dueEvening("13 one minute", x, 1, 0, 1, 1, NONE);
    }

    /** The greatest TIMES and the longest CANDLE. */
    private static void eveningOfLongest() {
        OneBook x = book(chapters("p99", 8));
        paceAll(x, 5, 1);
        likeAll(x, 5);
        x.set(0, 999);
        dueEvening("13 longest", x, 32, 0, 5, 990, 5);
        dueEvening("13 longest of all", x, 63, 3, 5, 990, NONE);
        OneBook just = book(chapters("p99", 5) + ";v09;d01");
        paceAll(just, 5, 1);
        for (int c = 0; c < 5; c++) {
            just.like(5, c, 1);
        }
        just.set(0, 999);
        dueEvening("13 just 999", just, 32, 0, 6, 999, 6);
        just.set(0, 998);
        dueEvening("13 one less", just, 32, 0, 5, 990, 5);
    }

    // ---- 14

    /** "BAD". */
    private static void waitedBounds() {
        bounds("14 readers", Scene.RICH, 1, 63, (x, v) -> x.waited(v, 0, 0, 0), BAD);
        bounds("14 from", Scene.RICH, 0, 3, (x, v) -> x.waited(3, v, 1, 0), BAD);
        bounds("14 from", Scene.EIGHT, 0, 7, (x, v) -> x.waited(63, v, 5, 1), BAD);
        bounds("14 reader", Scene.RICH, 0, 5, (x, v) -> x.waited(63, 0, v, 0), BAD);
        bounds("14 what", Scene.RICH, 0, 1, (x, v) -> x.waited(3, 0, 1, v), BAD);
        for (Scene none : WITHOUT_CHAPTERS) {
            refused("14 of none", none, x -> x.waited(1, 0, 0, 0), BAD);
        }
        onlyAsks("14 asked", x -> x.waited(63, 0, 1, 1));
    }

    /** "BAD: also one who is not in the set." */
    private static void waitedOnlyOfTheSet() {
        for (int set = 1; set <= 63; set++) {
            OneBook x = book("p12");
            for (int r = 0; r < 6; r++) {
                int want = (set >> r & 1) == 1 ? 0 : BAD;
                due("14 " + r + " of " + set, x.waited(set, 0, r, 0), want);
                due("14 work of " + r + " of " + set, x.waited(set, 0, r, 1), want);
            }
        }
        refused("14 not in the set", Scene.RICH, x -> x.waited(62, 0, 0, 0), BAD);
        refused("14 not in the set", Scene.RICH, x -> x.waited(31, 0, 5, 1), BAD);
    }

    /** "each WAITS for that less one's own"; "how long a READER of the set WAITED in all". */
    private static void waitedLessOnesOwn() {
        OneBook x = slowAndFast("p12;v12;d12");
        due("14 the slowest", x.waited(63, 0, 0, 0), 0);
        due("14 another", x.waited(63, 0, 1, 0), 18);
        due("14 alone", x.waited(2, 0, 1, 0), 0);
        due("14 from the last", x.waited(63, 2, 5, 0), 8);
        x.skip(0, 1);
        due("14 not in a skipped one", x.waited(63, 0, 5, 0), 16);
        x.set(0, 23);
        due("14 not in one that is not read", x.waited(63, 0, 5, 0), 8);
        OneBook most = book(chapters("p99", 8));
        paceAll(most, 0, 1);
        likeAll(most, 0);
        paceAll(most, 1, 9);
        most.set(0, 999);
        due("14 longest", most.waited(3, 0, 1, 0), 5 * 187);
    }

    /** Each of six, asked by turns: nothing of one EVENING is left in the next. */
    private static void waitedOfEach() {
        OneBook x = book("p60;v60");
        int[] minutes = {10, 60, 30, 20, 15, 12};
        for (int r = 0; r < 6; r++) {
            paceAll(x, r, 60 / minutes[r]);
        }
        for (int again = 0; again < 3; again++) {
            for (int r = 0; r < 6; r++) {
                due("14 of six, " + r, x.waited(63, 0, r, 0), 2 * (60 - minutes[r]));
                due("14 of six, from the last, " + r, x.waited(63, 1, r, 0), 60 - minutes[r]);
                due("14 of two, " + r, x.waited(1 << r | 2, 1, 1, 0), 0);
            }
        }
    }

    private static void waitedWhenNothingIsRead() {
        OneBook x = slowAndFast("p12;v12");
        x.reader(1, 0, 99);
        x.set(0, 11);
        due("14 too long", x.waited(3, 0, 1, 0), 0);
        due("14 all the work", x.waited(3, 0, 1, 1), 99);
        x.set(0, 999);
        skipAll(x);
        due("14 all skipped", x.waited(3, 0, 1, 0), 0);
        due("14 all the work", x.waited(3, 0, 1, 1), 99);
    }

    /** "WORK of a READER (0 to 99": "what is left of it, WAITED minutes being taken from it". */
    private static void workThatIsLeft() {
        OneBook x = slowAndFast("p12");
        int[] work = {0, 1, 5, 6, 7, 98, 99};
        for (int w : work) {
            x.reader(1, 0, w);
            due("14 left of " + w, x.waited(3, 0, 1, 1), Math.max(0, w - 6));
            due("14 waited with " + w, x.waited(3, 0, 1, 0), 6);
            due("14 asked again", x.waited(3, 0, 1, 1), Math.max(0, w - 6));
            due("14 the work itself stays", x.reader(1, 0, w), w);
        }
        x.reader(0, 0, 99);
        due("14 who does not wait", x.waited(3, 0, 0, 1), 99);
        OneBook most = slowAndFast(chapters("p99", 8));
        most.reader(1, 0, 99);
        most.set(0, 999);
        due("14 far more waited than work", most.waited(3, 0, 1, 1), 0);
    }

    // ---- 15

    /** "BAD: also one with oneself." */
    private static void bestBounds() {
        bounds("15 a", 0, 5, (x, v) -> x.best(v, v == 0 ? 1 : 0, 0), BAD);
        bounds("15 b", 0, 5, (x, v) -> x.best(v == 0 ? 1 : 0, v, 0), BAD);
        bounds("15 what", 0, 2, (x, v) -> x.best(5, 4, v), BAD);
        for (int r = 0; r < 6; r++) {
            int one = r;
            refused("15 oneself", x -> x.best(one, one, 0), BAD);
        }
        onlyAsks("15 asked", x -> x.best(0, 1, 1));
    }

    private static void bestOfNothing() {
        dueBest("15 empty", new OneBook(), 0, 1, 0, 0, 0);
        dueBest("15 with a fault", Scene.FULL.make(), 5, 4, 0, 0, 0);
        OneBook x = book("p01;v01");
        x.set(0, 0);
        x.set(1, 0);
        dueBest("15 no minutes", x, 0, 1, 0, 0, 0);
        dueRow("16 no minutes", x, 0, 1, "22");
    }

    /** "All TOGETHER takes no more than the CANDLE". */
    private static void bestByTheCandle() {
        for (int[] two : new int[][] {{0, 1}, {1, 0}}) {
            OneBook x = slowAndFast("p12;v12");
            x.set(1, 0);
            x.set(0, 24);
            dueBest("15 candle 24", x, two[0], two[1], 24, 12, 24);
            dueRow("16 candle 24", x, two[0], two[1], "00");
            x.set(0, 23);
            dueBest("15 candle 23", x, two[0], two[1], 12, 6, 12);
            dueRow("16 candle 23", x, two[0], two[1], "02");
            x.set(0, 12);
            dueBest("15 candle 12", x, two[0], two[1], 12, 6, 12);
            x.set(0, 11);
            dueBest("15 candle 11", x, two[0], two[1], 0, 0, 0);
            dueRow("16 candle 11", x, two[0], two[1], "22");
        }
    }

    /** "what each reads alone takes no more than the DAY": the slower one's too, whoever is named first. */
    private static void bestByTheDay() {
        for (int[] two : new int[][] {{0, 1}, {1, 0}}) {
            OneBook x = slowAndFast("p12;v12");
            x.set(0, 0);
            x.set(1, 24);
            dueBest("15 day 24", x, two[0], two[1], 24, 0, 0);
            dueRow("16 day 24", x, two[0], two[1], "11");
            x.set(1, 23);
            dueBest("15 day 23", x, two[0], two[1], 12, 0, 0);
            dueRow("16 day 23", x, two[0], two[1], "12");
            x.set(1, 12);
            dueBest("15 day 12", x, two[0], two[1], 12, 0, 0);
            x.set(1, 11);
            dueBest("15 day 11", x, two[0], two[1], 0, 0, 0);
            dueRow("16 day 11", x, two[0], two[1], "22");
        }
    }

    /** "SKIPPED ones are 2". */
    private static void bestOfSkipped() {
        OneBook x = slowAndFast("p12;v12;d12");
        x.set(0, 999);
        x.set(1, 999);
        x.skip(1, 1);
        dueBest("15 one skipped", x, 0, 1, 24, 0, 0);
        dueRow("16 one skipped", x, 0, 1, "121");
        skipAll(x);
        dueBest("15 all skipped", x, 0, 1, 0, 0, 0);
        dueRow("16 all skipped", x, 0, 1, "222");
    }

    /** "the most LINES that are not by neither, of like ones the least WAITED by both together". */
    private static void bestIsMostLinesThenLeastWaited() {
        OneBook more = slowAndFast("p12;v13");
        more.set(0, 13);
        more.set(1, 0);
        dueBest("15 one line more, and more waited", more, 0, 1, 13, 6, 13);
        dueRow("16 one line more", more, 0, 1, "20");
        OneBook both = book("p12;v12");
        both.pace(0, 0, 1);
        both.pace(1, 0, 2);
        both.pace(1, 1, 1);
        both.set(1, 12);
        dueBest("15 of six and eight minutes the eight are saved", both, 0, 1, 24, 6, 12);
        dueRow("16 the second alone", both, 0, 1, "01");
        dueRow("16 the second alone, named the other way", both, 1, 0, "01");
    }

    /** "of like ones the least row". */
    private static void bestIsTheLeastRow() {
        OneBook x = book("p12;p12;p12");
        dueRow("16 all together, where nobody waits", x, 0, 1, "000");
        x.set(0, 8);
        dueRow("16 the last alone", x, 0, 1, "001");
        x.set(1, 0);
        dueRow("16 the last by neither", x, 0, 1, "002");
        x.set(0, 4);
        x.set(1, 4);
        dueRow("16 one each way", x, 0, 1, "012");
        x.set(0, 0);
        dueRow("16 one alone", x, 0, 1, "122");
        x.skip(0, 1);
        dueRow("16 the first is skipped", x, 0, 1, "212");
    }

    /** As many CHAPTERS, LINES and minutes as there may be. */
    private static void bestOfEight() {
        OneBook x = book(chapters("p99", 8));
        paceAll(x, 0, 9);
        paceAll(x, 1, 9);
        x.set(0, 88);
        x.set(1, 0);
        dueBest("15 eight together", x, 0, 1, 792, 0, 88);
        dueRow("16 eight together", x, 0, 1, "00000000");
        x.set(0, 87);
        dueBest("15 seven together", x, 0, 1, 693, 0, 77);
        dueRow("16 seven together", x, 0, 1, "00000002");
        x.set(1, 11);
        dueRow("16 the eighth alone", x, 0, 1, "00000001");
        x.set(0, 0);
        x.set(1, 88);
        dueRow("16 eight alone", x, 0, 1, "11111111");
        paceAll(x, 0, 1);
        likeAll(x, 0);
        x.set(0, 999);
        x.set(1, 0);
        dueBest("15 the longest five", x, 0, 1, 495, 5 * 187, 990);
        x.set(1, 999);
        dueBest("15 five by day, three by the candle", x, 0, 1, 792, 3 * 187, 594);
        dueRow("16 three by the candle", x, 0, 1, "00011111");
    }

    /** Nothing is left of a plan for a longer BOOK. */
    private static void bestOfAShorterBook() {
        OneBook x = book(chapters("p99", 8));
        x.best(0, 1, 0);
        x.wipe();
        typeAll(x, "p12;v12;d12");
        paceAll(x, 0, 1);
        paceAll(x, 1, 2);
        x.set(0, 12);
        x.set(1, 12);
        dueBest("15 of a shorter one", x, 0, 1, 24, 6, 12);
        dueRow("16 of a shorter one", x, 0, 1, "012");
        x.wipe();
        dueBest("15 of none", x, 0, 1, 0, 0, 0);
        typeAll(x, "p12");
        dueRow("16 of one", x, 0, 1, "1");
    }

    // ---- 16

    /** "BAD: likewise." */
    private static void howBounds() {
        bounds("16 a", Scene.RICH, 0, 5, (x, v) -> x.how(v, v == 0 ? 1 : 0, 0), BAD);
        bounds("16 b", Scene.RICH, 0, 5, (x, v) -> x.how(v == 0 ? 1 : 0, v, 0), BAD);
        bounds("16 chapter", Scene.RICH, 0, 3, (x, v) -> x.how(0, 1, v), BAD);
        bounds("16 chapter", Scene.EIGHT, 0, 7, (x, v) -> x.how(5, 4, v), BAD);
        for (int r = 0; r < 6; r++) {
            int one = r;
            refused("16 oneself", Scene.RICH, x -> x.how(one, one, 0), BAD);
        }
        for (Scene none : WITHOUT_CHAPTERS) {
            refused("16 of none", none, x -> x.how(0, 1, 0), BAD);
        }
        onlyAsks("16 asked", x -> x.how(0, 1, 0));
    }

    // ---- 17

    /** "so and so slow (0 to 3)"; "BAD: -10002: also one with oneself." */
    private static void gainBounds() {
        bounds("17 a", 0, 5, (x, v) -> x.gain(v, v == 0 ? 1 : 0, 0, 0), BAD_NUMBER);
        bounds("17 b", 0, 5, (x, v) -> x.gain(v == 0 ? 1 : 0, v, 0, 0), BAD_NUMBER);
        bounds("17 slow a", 0, 3, (x, v) -> x.gain(0, 1, v, 0), BAD_NUMBER);
        bounds("17 slow b", 0, 3, (x, v) -> x.gain(0, 1, 0, v), BAD_NUMBER);
        for (int r = 0; r < 6; r++) {
            int one = r;
            refused("17 oneself", x -> x.gain(one, one, 0, 0), BAD_NUMBER);
        }
        onlyAsks("17 asked", x -> x.gain(0, 1, 3, 3));
    }

    /** "in each CHAPTER that is not SKIPPED"; "over all these CHAPTERS". */
    private static void gainOfNothing() {
        OneBook empty = new OneBook();
        OneBook skipped = book("p12;v12");
        skipAll(skipped);
        for (OneBook x : new OneBook[] {empty, skipped}) {
            x.reader(0, 1, 9);
            for (int i = 0; i < 16; i++) {
                due("17 of no chapters", x.gain(0, 1, i / 4, i % 4), 0);
            }
        }
    }

    /** "JOY (0 to 9; 1 at first) of each such minute; each minute that one WAITS takes 1". */
    private static void gainOfOneMinute() {
        OneBook x = book("p12");
        due("17 as slow", x.gain(0, 1, 0, 0), 0);
        due("17 one minute slower", x.gain(0, 1, 1, 0), 1);
        due("17 one minute faster", x.gain(0, 1, 0, 1), -1);
        due("17 both slower", x.gain(0, 1, 1, 1), 1);
        due("17 two slower, and one waited", x.gain(0, 1, 2, 3), 1);
        for (int joy = 0; joy <= 9; joy++) {
            x.reader(0, 1, joy);
            due("17 joy " + joy, x.gain(0, 1, 3, 3), 3 * joy);
            due("17 the other one's joy is one's own", x.gain(1, 0, 3, 3), 3);
        }
    }

    private static void gainExtremes() {
        OneBook x = book(chapters("p99", 8));
        paceAll(x, 0, 9);
        paceAll(x, 1, 1);
        likeAll(x, 1);
        x.reader(0, 1, 0);
        x.reader(1, 1, 9);
        due("17 least", x.gain(0, 1, 0, 3), -8 * 190);
        due("17 most", x.gain(1, 0, 3, 0), 8 * 27);
        due("17 waits for all that, without joy", x.gain(0, 1, 3, 0), -8 * 184);
    }

    // ---- 18

    /** "how many (i = NONE), the i-th (NONE beyond)"; "BAD: also one with oneself." */
    private static void restsBounds() {
        bounds("18 a", 0, 5, (x, v) -> x.rests(v, v == 0 ? 1 : 0, NONE), BAD);
        bounds("18 b", 0, 5, (x, v) -> x.rests(v == 0 ? 1 : 0, v, NONE), BAD);
        bounds("18 i", -1, MOST, (x, v) -> x.rests(0, 1, v), BAD);
        for (int r = 0; r < 6; r++) {
            int one = r;
            refused("18 oneself", x -> x.rests(one, one, 0), BAD);
        }
        onlyAsks("18 asked", x -> x.rests(0, 1, 0));
    }

    private static void restsOfNothing() {
        OneBook empty = new OneBook();
        OneBook skipped = book("p12;v12");
        skipAll(skipped);
        for (OneBook x : new OneBook[] {empty, skipped}) {
            due("18 all are rests", x.rests(0, 1, NONE), 16);
            for (int i = 0; i < 16; i++) {
                due("18 rest " + i, x.rests(0, 1, i), i);
            }
            due("18 beyond", x.rests(0, 1, 16), NONE);
            due("18 far beyond", x.rests(0, 1, MOST), NONE);
        }
    }

    /** "by which neither would GAIN more by another number": as much is not more. */
    private static void restsOfLikeGains() {
        OneBook x = book("p12");
        due("18 with joy", x.rests(0, 1, NONE), 1);
        due("18 both slowest", x.rests(0, 1, 0), 15);
        due("18 beyond the only one", x.rests(0, 1, 1), NONE);
        x.reader(0, 1, 0);
        x.reader(1, 1, 0);
        due("18 without joy", x.rests(0, 1, NONE), 4);
        for (int i = 0; i < 4; i++) {
            due("18 without joy " + i, x.rests(0, 1, i), 5 * i);
        }
        due("18 beyond four", x.rests(0, 1, 4), NONE);
        x.pace(0, 0, 1);
        due("18 one far slower", x.rests(0, 1, NONE), 4);
        for (int i = 0; i < 4; i++) {
            due("18 the other one as slow as may be, " + i, x.rests(0, 1, i), 4 * i + 3);
            due("18 likewise, named the other way, " + i, x.rests(1, 0, i), 12 + i);
        }
    }

    /** "4 times that of the first one, and that of the second; by numbers". */
    private static void restsFirstAndSecond() {
        OneBook x = book("p12");
        x.reader(0, 1, 0);
        x.reader(1, 1, 0);
        x.pace(0, 0, 4);
        int[] first = {4, 9, 14};
        int[] second = {1, 6, 11};
        for (int i = 0; i < 3; i++) {
            due("18 the first one ahead", x.rests(0, 1, i), first[i]);
            due("18 the second one ahead", x.rests(1, 0, i), second[i]);
        }
    }

    // ---- 19

    /** "a READER of the set (1 to 63)"; "BAD: also one who is not in the set; NOT". */
    private static void pairsBounds() {
        bounds("19 set", 1, 63, (x, v) -> x.pairs(v, NONE), BAD);
        bounds("19 reader", -1, 5, (x, v) -> x.pairs(63, v), BAD);
        refused("19 not in the set", x -> x.pairs(3, 2), BAD);
        refused("19 one", x -> x.pairs(1, NONE), NOT);
        refused("19 one with whom", x -> x.pairs(32, 5), NOT);
        refused("19 three", x -> x.pairs(7, NONE), NOT);
        refused("19 five", x -> x.pairs(62, 5), NOT);
        refused("19 odd, and not in the set", x -> x.pairs(7, 3), BAD);
        refused("19 odd, and no such reader", x -> x.pairs(7, 6), BAD);
        refused("19 odd, and below NONE", x -> x.pairs(7, -2), BAD);
        onlyAsks("19 asked", x -> x.pairs(63, 0));
    }

    /** "as many as are even, two at least"; "each sits with one". */
    private static void pairsOfEachSet() {
        for (int set = 1; set <= 63; set++) {
            OneBook x = book("p60");
            boolean even = Integer.bitCount(set) % 2 == 0;
            due("19 minutes of " + set, x.pairs(set, NONE), even ? 0 : NOT);
            for (int r = 0; r < 6; r++) {
                boolean in = (set >> r & 1) == 1;
                int seat = x.pairs(set, r);
                if (!in || !even) {
                    due("19 " + r + " of " + set, seat, in ? NOT : BAD);
                } else {
                    due("19 with another of " + set, seat != r && (set >> seat & 1) == 1 ? 1 : 0, 1);
                    due("19 who sits with " + r, x.pairs(set, seat), r);
                }
            }
        }
    }

    /** "of like ones the one in which who has the least number sits with the least one, then" and so on. */
    private static void pairsOfLikeWays() {
        OneBook x = book("p60");
        for (int r = 0; r < 6; r++) {
            due("19 all alike", x.pairs(63, r), r ^ 1);
        }
        x.pace(0, 0, 1);
        x.pace(3, 0, 1);
        int[] seats = {3, 2, 1, 0, 5, 4};
        for (int r = 0; r < 6; r++) {
            due("19 the slow two, then the least ones", x.pairs(63, r), seats[r]);
        }
        x.pace(3, 0, 3);
        due("19 one must wait, whoever", x.pairs(63, NONE), 40);
        for (int r = 0; r < 6; r++) {
            due("19 whoever: the least one", x.pairs(63, r), r ^ 1);
        }
        due("19 of four", x.pairs(0b111001, 0), 3);
        due("19 those left", x.pairs(0b111001, 4), 5);
        due("19 of two", x.pairs(0b100001, 0), 5);
        skipAll(x);
        due("19 all skipped", x.pairs(63, NONE), 0);
        due("19 all skipped", x.pairs(63, 5), 4);
        due("19 empty", new OneBook().pairs(63, NONE), 0);
        due("19 empty", new OneBook().pairs(63, 2), 3);
    }

    /** "the way by which all WAIT least": what each of three pairs waits, in all. */
    private static void pairsThatAllWait() {
        OneBook x = book("p60;v60");
        int[] minutes = {60, 12, 20, 10, 30, 15};
        int[] seats = {4, 3, 5, 1, 0, 2};
        for (int r = 0; r < 6; r++) {
            paceAll(x, r, 60 / minutes[r]);
        }
        due("19 three pairs that wait", x.pairs(63, NONE), 2 * (30 + 2 + 5));
        for (int r = 0; r < 6; r++) {
            due("19 seat of " + r, x.pairs(63, r), seats[r]);
        }
        due("19 two pairs that wait", x.pairs(0b010111, NONE), 2 * (30 + 8));
        x.skip(0, 1);
        due("19 one chapter skipped", x.pairs(63, NONE), 30 + 2 + 5);
    }

    private static void pairsExtremes() {
        OneBook x = book(chapters("p99", 8));
        for (int r = 0; r < 6; r++) {
            paceAll(x, r, r == 5 ? 1 : 9);
        }
        likeAll(x, 5);
        due("19 one is far slower", x.pairs(63, NONE), 8 * 187);
        due("19 two, one far slower", x.pairs(33, NONE), 8 * 187);
        due("19 with the last one left", x.pairs(63, 5), 4);
    }
}
