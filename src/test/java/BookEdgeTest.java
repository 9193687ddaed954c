import java.util.Arrays;

/** THE BOOK and the READERS (promises 1 to 12) at their edges; above each test, the sentence that it holds. */
public final class BookEdgeTest extends Edges {
    private static final String EIGHT = "p01;v02;d03;p04;v05;d06;p07;v08";
    /** One for each way to a FAULT. */
    private static final String[] FAULTY = {"p", "p1", "p10;", "x10", "p1x", "p10x", "p00", "p10;v00", EIGHT + ";",
        EIGHT + ";p01", EIGHT + "x"};

    public static void main(String[] args) {
        newBookIsEmpty();
        newSheetsAreLost();
        newReadersAndMinutes();
        typeTakesSixty();
        typeTakesEachByte();
        typeRefuses();
        wipeTellsHowMany();
        wipeKeepsAllElse();
        faultOfEmptyAndUnended();
        faultOfEachByte();
        faultOfNoLines();
        faultOfNinth();
        faultIsTheFirst();
        faultStays();
        faultyIsAsEmpty();
        chapterBounds();
        chapterOfEachNumber();
        paceBounds();
        paceIsOneReadersForOneKind();
        readBounds();
        readCountsItems();
        readStopsAtFirstThatMayNotBe();
        readTakesWhatAnItemHolds();
        readKeepsTheSheet();
        likeBounds();
        likeThereOrNot();
        skipBounds();
        skipThereOrNot();
        readerBounds();
        readerTellsWhatWas();
        setBounds();
        setTellsWhatWas();
        timeBounds();
        timeIsCutUp();
        timeOfSkipped();
        lastOfAllCalls();
        end();
    }

    // ---- 1

    /** "An empty BOOK". */
    private static void newBookIsEmpty() {
        OneBook x = new OneBook();
        due("1 bytes", x.count(1), 0);
        due("1 chapters", x.count(0), 0);
        due("1 lines", x.count(2), 0);
        due("1 fault", x.fault(), NONE);
        due("1 wipe", x.wipe(), 0);
        due("1 first byte", x.type('p'), 1);
    }

    /** "all SHEETS are LOST"; "(0 before any)". */
    private static void newSheetsAreLost() {
        OneBook x = new OneBook();
        due("1 no finding", x.count(8), 0);
        for (int s = 0; s < 4; s++) {
            due("1 read " + s, x.read(s, 0), NULL);
            due("1 write " + s, x.write(0, s), NULL);
            due("1 copy " + s, x.copy(s, 0, s, 0, 0), NULL);
            for (int form = 0; form < 3; form++) {
                due("1 lay " + s, x.lay(s, form, 0, 1), NULL);
            }
            due("1 lose " + s, x.lose(s), NULL);
        }
    }

    /** "3 at first", "none at first", "120 at first", "60 at first", "0 at first", "1 at first". */
    private static void newReadersAndMinutes() {
        OneBook x = new OneBook();
        for (int r = 0; r < 6; r++) {
            for (int kind = 0; kind < 3; kind++) {
                due("pace at first", x.pace(r, kind, 9), 3);
            }
            for (int c = 0; c < 8; c++) {
                due("like at first", x.like(r, c, 1), 0);
            }
            due("work at first", x.reader(r, 0, 1), 0);
            due("joy at first", x.reader(r, 1, 2), 1);
            due("mood at first", x.reader(r, 2, 1), 0);
        }
        for (int c = 0; c < 8; c++) {
            due("skip at first", x.skip(c, 1), 0);
        }
        due("turns at first", x.forget(), 0);
        due("candle at first", x.set(0, 1), 120);
        due("day at first", x.set(1, 1), 60);
    }

    // ---- 2

    /** "THE BOOK is a text of up to 60 bytes"; "how many"; "FULL". */
    private static void typeTakesSixty() {
        OneBook x = new OneBook();
        for (int i = 1; i <= 60; i++) {
            due("2 byte " + i, x.type('p'), i);
        }
        due("2 the 61st", x.type('p'), FULL);
        due("2 still sixty", x.count(1), 60);
        due("2 again", x.type(';'), FULL);
        due("2 wiped", x.wipe(), 60);
        due("2 room again", x.type('p'), 1);
    }

    /** "A byte (0 to 255) comes behind THE BOOK". */
    private static void typeTakesEachByte() {
        for (int b = 0; b < 256; b++) {
            OneBook x = book("p1");
            due("2 byte " + b, x.type(b), 3);
            due("2 bytes with " + b, x.count(1), 3);
        }
        OneBook x = new OneBook();
        due("2 byte 0", x.type(0), 1);
        due("2 byte 255", x.type(255), 2);
    }

    /** "BAD; FULL." */
    private static void typeRefuses() {
        for (Scene scene : Scene.values()) {
            refusedBeyond("2 byte", scene, 0, 255, OneBook::type, BAD);
        }
        for (int b : new int[] {0, 'p', ';', '1', 255}) {
            refused("2 full " + b, Scene.FULL, x -> x.type(b), FULL);
        }
    }

    // ---- 3

    /** "THE BOOK is empty: how many bytes it had." */
    private static void wipeTellsHowMany() {
        for (int n = 0; n <= 60; n++) {
            OneBook x = book("x".repeat(n));
            due("3 had " + n, x.wipe(), n);
            due("3 none left", x.wipe(), 0);
            due("3 no fault", x.fault(), NONE);
            due("3 no bytes", x.count(1), 0);
        }
        OneBook x = book(EIGHT);
        due("3 had chapters", x.wipe(), 31);
        due("3 no chapter", x.chapter(0, 0), BAD);
        due("3 no chapters", x.count(0), 0);
    }

    private static void wipeKeepsAllElse() {
        OneBook x = Scene.RICH.make();
        x.wipe();
        typeAll(x, "p30;v08;d21;p09");
        due("3 keeps all else", Arrays.equals(shown(x), shown(Scene.RICH.make())) ? 1 : 0, 1);
        OneBook found = new OneBook();
        found.lose(0);
        found.wipe();
        due("3 keeps the latest finding", found.count(8), 1);
    }

    // ---- 4

    /** "(an empty text is well; of one that is not ended, its end)"; "The FAULT; NONE." */
    private static void faultOfEmptyAndUnended() {
        OneBook x = new OneBook();
        due("4 empty", x.fault(), NONE);
        for (int i = 0; i < EIGHT.length(); i++) {
            x.type(EIGHT.charAt(i));
            boolean ended = i % 4 == 2;
            due("4 after " + (i + 1) + " bytes", x.fault(), ended ? NONE : i + 1);
            due("4 chapters after " + (i + 1) + " bytes", x.count(0), ended ? i / 4 + 1 : 0);
        }
        due("4 '0' may still become 01", book("p0").fault(), 2);
    }

    /** "the place of the first byte with which it cannot go on"; "p prose, v verse, d talk"; "two figures". */
    private static void faultOfEachByte() {
        for (int place = 0; place < 31; place++) {
            String signs = place % 4 == 0 ? "pvd" : place % 4 == 3 ? ";" : "0123456789";
            for (int b = 0; b < 256; b++) {
                OneBook x = book(EIGHT.replace('0', '1').substring(0, place));
                x.type(b);
                int goesOn = place % 4 == 2 ? NONE : place + 1;
                due("4 byte " + b + " at " + place, x.fault(), signs.indexOf(b) >= 0 ? goesOn : place);
            }
        }
    }

    /** "LINES (01 to 99)"; "of the first figure of 00". */
    private static void faultOfNoLines() {
        for (int c = 0; c < 8; c++) {
            String before = EIGHT.substring(0, 4 * c);
            for (int lines = 0; lines <= 99; lines++) {
                OneBook x = book(before + "d" + lines / 10 + lines % 10);
                due("4 lines " + lines + " of chapter " + c, x.fault(), lines == 0 ? 4 * c + 1 : NONE);
                due("4 told " + lines, x.chapter(c, 1), lines == 0 ? BAD : lines);
            }
        }
    }

    /** "8 at most"; "or of the first byte of a ninth". */
    private static void faultOfNinth() {
        due("4 eight", book(EIGHT).fault(), NONE);
        due("4 a ninth is due", book(EIGHT + ";").fault(), 32);
        for (int b = 0; b < 256; b++) {
            OneBook x = book(EIGHT + ";");
            x.type(b);
            due("4 a ninth begins with " + b, x.fault(), 32);
            due("4 no chapters", x.count(0), 0);
        }
        for (String ninth : new String[] {"p1", "p01", "p00", "p01;", "p01;v02", "px"}) {
            due("4 the ninth is " + ninth, book(EIGHT + ";" + ninth).fault(), 32);
        }
    }

    /** "the first", where there is more than one. */
    private static void faultIsTheFirst() {
        due("4 00 and a byte", book("p00x").fault(), 1);
        due("4 00 and another", book("p10;v00;d00").fault(), 5);
        due("4 a byte and 00", book("p1x;v00").fault(), 2);
        due("4 a byte and the end", book("x").fault(), 0);
        due("4 two bytes", book("pxx").fault(), 1);
        due("4 00 and the end", book("p00;").fault(), 1);
        due("4 00 and a ninth", book(EIGHT.replace("08", "00") + ";p01").fault(), 29);
        due("4 no ; before a ninth", book(EIGHT + "p01").fault(), 31);
        due("4 a third figure", book("p010").fault(), 3);
        due("4 0 and no figure", book("p0;").fault(), 2);
        due("4 two ;", book("p10;;").fault(), 4);
        due("4 a ; ahead", book(";p10").fault(), 0);
    }

    /** A byte that it cannot go on with stays so, whatever comes behind, up to 60. */
    private static void faultStays() {
        OneBook x = book("p10q");
        for (int i = 5; i <= 60; i++) {
            x.type(";p10".charAt((i - 1) % 4));
            due("4 stays at " + i, x.fault(), 3);
        }
        due("4 full", x.type('p'), FULL);
        due("4 stays when full", x.fault(), 3);
        x.wipe();
        due("4 wiped", x.fault(), NONE);
        typeAll(x, "d05");
        due("4 well again", x.fault(), NONE);
        due("4 told again", x.chapter(0, 1), 5);
    }

    /** "With a FAULT it is as if it was empty." */
    private static void faultyIsAsEmpty() {
        for (String text : FAULTY) {
            OneBook x = book(text);
            OneBook empty = new OneBook();
            int[] asked = {0, 2, 3, 4};
            for (OneBook each : new OneBook[] {x, empty}) {
                each.skip(0, 1);
                each.like(0, 0, 1);
                each.turn(0, 1, 4);
                each.sheet(0, 2, 9);
                each.reader(0, 2, 2);
            }
            for (int what : asked) {
                due("4 count " + what + " of " + text, x.count(what), 0);
            }
            asEmpty(text, x, empty);
            due("4 bytes of " + text, x.count(1), text.length());
        }
    }

    private static void asEmpty(String text, OneBook x, OneBook empty) {
        due("4 chapter of " + text, x.chapter(0, 0), BAD);
        due("4 time of " + text, x.time(0, 0), BAD);
        due("4 evening of " + text, x.evening(1, 0, 0), BAD);
        due("4 waited of " + text, x.waited(1, 0, 0, 0), BAD);
        due("4 how of " + text, x.how(0, 1, 0), BAD);
        for (int what = 0; what < 3; what++) {
            due("4 best of " + text, x.best(0, 1, what), empty.best(0, 1, what));
        }
        due("4 gain of " + text, x.gain(0, 1, 3, 0), empty.gain(0, 1, 3, 0));
        due("4 rests of " + text, x.rests(0, 1, NONE), empty.rests(0, 1, NONE));
        due("4 pairs of " + text, x.pairs(63, NONE), empty.pairs(63, NONE));
        due("4 seat of " + text, x.pairs(63, 0), empty.pairs(63, 0));
        due("4 paces of " + text, x.paces(0, 0), empty.paces(0, 0));
        due("4 unlike of " + text, x.unlike(), empty.unlike());
        for (int what = 0; what < 2; what++) {
            due("4 done of " + text, x.done(1, 0, what), empty.done(1, 0, what));
            due("4 mean of " + text, x.mean(1, what), empty.mean(1, what));
        }
        due("4 write of " + text, x.write(0, 0), empty.write(0, 0));
    }

    // ---- 5

    /** "BAD": no such CHAPTER, no such thing. */
    private static void chapterBounds() {
        bounds("5 chapter", Scene.RICH, 0, 3, (x, v) -> x.chapter(v, 0), BAD);
        bounds("5 chapter", Scene.EIGHT, 0, 7, (x, v) -> x.chapter(v, 1), BAD);
        bounds("5 what", Scene.RICH, 0, 2, (x, v) -> x.chapter(3, v), BAD);
        for (Scene none : new Scene[] {Scene.FRESH, Scene.FULL}) {
            for (int what = 0; what < 3; what++) {
                int asked = what;
                refused("5 of none", none, x -> x.chapter(0, asked), BAD);
            }
        }
        onlyAsks("5 asked", x -> x.chapter(0, 2));
    }

    /** "8 at most (0 on)"; "0 to 2"; "01 to 99". */
    private static void chapterOfEachNumber() {
        for (int n = 1; n <= 8; n++) {
            OneBook x = book(EIGHT.substring(0, 4 * n - 1));
            due("5 chapters", x.count(0), n);
            due("5 kind of the last", x.chapter(n - 1, 0), (n - 1) % 3);
            due("5 lines of the last", x.chapter(n - 1, 1), n);
            due("5 not skipped", x.chapter(n - 1, 2), 0);
            due("5 one more", x.chapter(n, 0), BAD);
            x.skip(n - 1, 1);
            due("5 skipped", x.chapter(n - 1, 2), 1);
            due("5 another is not", n == 1 ? 0 : x.chapter(n - 2, 2), 0);
        }
        OneBook x = book("v01;v10;v99");
        due("5 least", x.chapter(0, 1), 1);
        due("5 ten", x.chapter(1, 1), 10);
        due("5 most", x.chapter(2, 1), 99);
    }

    // ---- 6

    /** "READERS are 0 to 5"; KINDS "0 to 2"; "a PACE for each KIND (1 to 9 LINES a minute". */
    private static void paceBounds() {
        bounds("6 reader", 0, 5, (x, v) -> x.pace(v, 0, 1), BAD);
        bounds("6 kind", 0, 2, (x, v) -> x.pace(0, v, 1), BAD);
        bounds("6 pace", 1, 9, (x, v) -> x.pace(5, 2, v), BAD);
        OneBook x = book("d99");
        due("6 least", x.pace(5, 2, 1), 3);
        due("6 slowest", x.time(5, 0), 99);
        due("6 most", x.pace(5, 2, 9), 1);
        due("6 fastest", x.time(5, 0), 11);
        due("6 was", x.pace(5, 2, 9), 9);
    }

    /** "Each has a PACE for each KIND"; "what it was". */
    private static void paceIsOneReadersForOneKind() {
        OneBook x = new OneBook();
        for (int i = 0; i < 18; i++) {
            due("6 at first", x.pace(i / 3, i % 3, 1 + i % 9), 3);
        }
        for (int i = 0; i < 18; i++) {
            due("6 was", x.pace(i / 3, i % 3, 5), 1 + i % 9);
        }
    }

    // ---- 7

    /** "BAD; NULL." */
    private static void readBounds() {
        bounds("7 sheet", 0, 3, (x, v) -> x.read(v, 0), BAD);
        bounds("7 reader", 0, 5, (x, v) -> x.read(0, v), BAD);
        finding("7 lost", Scene.RICH, x -> x.read(3, 0), NULL);
        finding("7 lost", Scene.FRESH, x -> x.read(0, 5), NULL);
        refused("7 lost, and no such reader", x -> x.read(3, 6), BAD);
        refused("7 lost, and no such reader", x -> x.read(3, -1), BAD);
    }

    /** "for KINDS 0 on by a SHEET, item by item": as many as there are items, and KINDS. */
    private static void readCountsItems() {
        for (int form = 0; form < 3; form++) {
            for (int n : new int[] {0, 1, 2, 3, 4, 60}) {
                OneBook x = new OneBook();
                x.sheet(1, form, n);
                for (int i = 0; i < n; i++) {
                    x.lay(1, form, i, i < 3 ? 9 - i : 5);
                }
                due("7 of " + n, x.read(1, 2), Math.min(n, 3));
                for (int kind = 0; kind < 3; kind++) {
                    due("7 kind " + kind + " of " + n, x.pace(2, kind, 1), kind < n ? 9 - kind : 3);
                    due("7 another reader", x.pace(1, kind, 1), 3);
                }
            }
        }
    }

    /** "as long as each may be: how many". */
    private static void readStopsAtFirstThatMayNotBe() {
        int[] mayNot = {0, 10, -1, 127, -128};
        for (int v : mayNot) {
            for (int at = 0; at < 3; at++) {
                OneBook x = new OneBook();
                x.sheet(0, 0, 5);
                int[] may = {1, 9, 5};
                for (int i = 0; i < 3; i++) {
                    x.lay(0, 0, i, i == at ? v : may[i]);
                }
                due("7 until " + v + " at " + at, x.read(0, 5), at);
                for (int kind = 0; kind < 3; kind++) {
                    due("7 kind " + kind + " before " + v, x.pace(5, kind, 1), kind < at ? may[kind] : 3);
                }
            }
        }
    }

    /** An item is what its FORM holds of what was laid. */
    private static void readTakesWhatAnItemHolds() {
        OneBook x = new OneBook();
        x.sheet(0, 0, 1);
        x.lay(0, 0, 0, 256 + 5);
        due("7 byte of 261", x.read(0, 0), 1);
        due("7 pace", x.pace(0, 0, 3), 5);
        x.sheet(1, 1, 1);
        x.lay(1, 1, 0, 65536 + 6);
        due("7 short of 65542", x.read(1, 0), 1);
        due("7 pace", x.pace(0, 0, 3), 6);
        x.lay(1, 1, 0, 256 + 5);
        due("7 short of 261", x.read(1, 0), 0);
        x.sheet(2, 2, 1);
        x.lay(2, 2, 0, 65536 + 6);
        due("7 int of 65542", x.read(2, 0), 0);
        x.lay(2, 2, 0, LEAST + 5);
        due("7 least int and 5", x.read(2, 0), 0);
        due("7 kept", x.pace(0, 0, 3), 3);
    }

    private static void readKeepsTheSheet() {
        OneBook x = Scene.RICH.make();
        due("7 two", x.read(0, 5), 2);
        int[] items = {4, 9, 10, 0, -1};
        for (int i = 0; i < 5; i++) {
            due("7 item " + i, x.get(0, 0, i), items[i]);
        }
        due("7 no finding", x.count(8), 0);
    }

    // ---- 8

    /** "a CHAPTER (0 to 7, there or not), or not (0)"; "BAD". */
    private static void likeBounds() {
        bounds("8 reader", 0, 5, (x, v) -> x.like(v, 0, 1), BAD);
        bounds("8 chapter", 0, 7, (x, v) -> x.like(0, v, 1), BAD);
        bounds("8 v", 0, 1, (x, v) -> x.like(0, 0, v), BAD);
    }

    private static void likeThereOrNot() {
        OneBook x = new OneBook();
        due("8 not there", x.like(5, 7, 1), 0);
        due("8 was", x.like(5, 7, 1), 1);
        due("8 none that is there", x.count(4), 0);
        typeAll(x, EIGHT);
        due("8 there now", x.count(4), 1);
        due("8 twice", x.time(5, 7), 6);
        due("8 another chapter", x.time(5, 6), 3);
        due("8 another reader", x.time(4, 7), 3);
        due("8 not", x.like(5, 7, 0), 1);
        due("8 was not", x.like(5, 7, 0), 0);
        due("8 once", x.time(5, 7), 3);
        due("8 none", x.count(4), 0);
    }

    // ---- 9

    /** "A CHAPTER (0 to 7, there or not) is SKIPPED (1), or not (0)"; "BAD". */
    private static void skipBounds() {
        bounds("9 chapter", 0, 7, (x, v) -> x.skip(v, 1), BAD);
        bounds("9 v", 0, 1, (x, v) -> x.skip(0, v), BAD);
    }

    private static void skipThereOrNot() {
        OneBook x = new OneBook();
        due("9 not there", x.skip(7, 1), 0);
        due("9 was", x.skip(7, 1), 1);
        due("9 none that is there", x.count(3), 0);
        typeAll(x, EIGHT);
        due("9 there now", x.count(3), 1);
        due("9 told", x.chapter(7, 2), 1);
        due("9 another", x.chapter(6, 2), 0);
        due("9 not", x.skip(7, 0), 1);
        due("9 was not", x.skip(7, 0), 0);
        due("9 told", x.chapter(7, 2), 0);
    }

    // ---- 10

    /** "WORK of a READER (0 to 99", "JOY (0 to 9", "MOOD (0 to 4 quarters"; "BAD". */
    private static void readerBounds() {
        bounds("10 reader", 0, 5, (x, v) -> x.reader(v, 0, 1), BAD);
        bounds("10 what", 0, 2, (x, v) -> x.reader(0, v, 1), BAD);
        bounds("10 work", 0, 99, (x, v) -> x.reader(5, 0, v), BAD);
        bounds("10 joy", 0, 9, (x, v) -> x.reader(5, 1, v), BAD);
        bounds("10 mood", 0, 4, (x, v) -> x.reader(5, 2, v), BAD);
    }

    /** "what it was": each by itself. */
    private static void readerTellsWhatWas() {
        int[] first = {0, 1, 0};
        int[] most = {99, 9, 4};
        OneBook x = new OneBook();
        for (int r = 0; r < 6; r++) {
            for (int what = 0; what < 3; what++) {
                due("10 first", x.reader(r, what, most[what]), first[what]);
            }
        }
        for (int r = 0; r < 6; r++) {
            for (int what = 0; what < 3; what++) {
                due("10 most", x.reader(r, what, 0), most[what]);
                due("10 least", x.reader(r, what, 0), 0);
            }
        }
    }

    // ---- 11

    /** "CANDLE (0 to 999 minutes", "DAY (0 to 999"; "BAD". */
    private static void setBounds() {
        bounds("11 what", 0, 1, (x, v) -> x.set(v, 1), BAD);
        bounds("11 candle", 0, 999, (x, v) -> x.set(0, v), BAD);
        bounds("11 day", 0, 999, (x, v) -> x.set(1, v), BAD);
    }

    private static void setTellsWhatWas() {
        OneBook x = new OneBook();
        due("11 candle", x.set(0, 999), 120);
        due("11 day", x.set(1, 0), 60);
        due("11 candle told", x.count(6), 999);
        due("11 day told", x.count(7), 0);
        due("11 candle", x.set(0, 0), 999);
        due("11 day", x.set(1, 999), 0);
        due("11 candle told", x.count(6), 0);
        due("11 day told", x.count(7), 999);
    }

    // ---- 12

    /** "BAD": no such READER, no such CHAPTER. */
    private static void timeBounds() {
        bounds("12 reader", Scene.RICH, 0, 5, (x, v) -> x.time(v, 0), BAD);
        bounds("12 chapter", Scene.RICH, 0, 3, (x, v) -> x.time(0, v), BAD);
        bounds("12 chapter", Scene.EIGHT, 0, 7, (x, v) -> x.time(5, v), BAD);
        refused("12 of none", Scene.FRESH, x -> x.time(0, 0), BAD);
        refused("12 of none", Scene.FULL, x -> x.time(0, 0), BAD);
        onlyAsks("12 asked", x -> x.time(0, 0));
    }

    /** "LINES by PACE, cut up, in minutes; twice, where one LIKES it." */
    private static void timeIsCutUp() {
        for (int lines = 1; lines <= 99; lines++) {
            OneBook x = book("v" + lines / 10 + lines % 10);
            for (int v = 1; v <= 9; v++) {
                int once = 0;
                for (int read = 0; read < lines; read += v) {
                    once++;
                }
                x.pace(3, 1, v);
                due("12 " + lines + " by " + v, x.time(3, 0), once);
                x.like(3, 0, 1);
                due("12 twice " + lines + " by " + v, x.time(3, 0), 2 * once);
                x.like(3, 0, 0);
            }
        }
        OneBook longest = book("p99");
        longest.pace(0, 0, 1);
        longest.like(0, 0, 1);
        due("12 longest", longest.time(0, 0), 198);
        OneBook shortest = book("p01");
        shortest.pace(0, 0, 9);
        due("12 shortest", shortest.time(0, 0), 1);
    }

    private static void timeOfSkipped() {
        OneBook x = book("p10");
        x.skip(0, 1);
        due("12 skipped", x.time(0, 0), 4);
    }

    /** "An object is used for at most 512 calls": the last of them is answered as the first. */
    private static void lastOfAllCalls() {
        OneBook x = new OneBook();
        for (int i = 1; i <= 504; i++) {
            due("call " + i, x.pace(0, 0, 1 + i % 2), i == 1 ? 3 : 1 + (i - 1) % 2);
        }
        typeAll(x, "p99");
        due("call 508", x.pace(0, 0, 9), 1);
        due("call 509", x.time(0, 0), 11);
        due("call 510", x.wipe(), 3);
        due("call 511", x.fault(), NONE);
        due("call 512", x.type('p'), 1);
    }
}
