import java.util.Arrays;
import java.util.Random;

/** SHEETS, count and digest (promises 26 to 33) at their edges; above each test, the sentence that it holds. */
public final class SheetEdgeTest extends Edges {
    private static final int[] LAID = {0, 1, -1, 127, 128, -128, -129, 255, 256, 32767, 32768, -32768, -32769, 65535, 65536,
        MOST, LEAST};
    private static final int[] AS_BYTES = {0, 1, -1, 127, -128, -128, 127, -1, 0, -1, 0, 0, -1, -1, 0, -1, 0};
    private static final int[] AS_SHORTS = {0, 1, -1, 127, 128, -128, -129, 255, 256, 32767, -32768, -32768, 32767, -1, 0,
        -1, 0};

    public static void main(String[] args) {
        sheetBounds();
        sheetBadBeforeSize();
        sheetOfEachSize();
        sheetIsANewRow();
        loseBounds();
        loseTellsHowMany();
        layBounds();
        layRefusesInOrder();
        layLowestBits();
        layOneItemOfOneSheet();
        getBounds();
        getRefusesInOrder();
        getTellsEachItem();
        copyBounds();
        copyRefusesInOrder();
        copyBeyondEitherRow();
        copyOfNoItems();
        copyOfWholeRows();
        copyAsTheyWere();
        writeBounds();
        writeAsManyAsThereAre();
        writeLowestBits();
        writeOfNothing();
        countBounds();
        countOfNothing();
        countOfMost();
        countOfWhatThereIs();
        countOfFindings();
        digestOfEachScene();
        digestOfUnlikeReaders();
        digestWraps();
        digestChangesNothing();
        digestWithoutSheets();
        end();
    }

    /** Items of a row from the first on, each one more than the one before. */
    private static void fill(OneBook x, int s, int form, int n, int first) {
        for (int i = 0; i < n; i++) {
            x.lay(s, form, i, first + i);
        }
    }

    private static void dueItems(String what, OneBook x, int s, int form, int... want) {
        for (int i = 0; i < want.length; i++) {
            due(what + ", item " + i, x.get(s, form, i), want[i]);
        }
    }

    // ---- 26

    /** "SHEETS 0 .. 3"; "a FORM: 0 bytes, 1 shorts, 2 ints"; "0 to 60 items"; "BAD: SHEET, FORM, above 60; SIZE." */
    private static void sheetBounds() {
        bounds("26 sheet", 0, 3, (x, v) -> x.sheet(v, 0, 1), BAD);
        bounds("26 form", 0, 2, (x, v) -> x.sheet(0, v, 1), BAD);
        for (Scene scene : Scene.values()) {
            for (int n : new int[] {61, 62, 256, 316, 65536, MOST - 1, MOST}) {
                refused("26 above 60: " + n, scene, x -> x.sheet(2, 2, n), BAD);
            }
            for (int n : new int[] {-1, -2, -60, -256, LEAST + 1, LEAST}) {
                finding("26 below 0: " + n, scene, x -> x.sheet(2, 1, n), SIZE);
            }
        }
    }

    private static void sheetBadBeforeSize() {
        for (int n : new int[] {-1, LEAST}) {
            refused("26 no such sheet, and below 0", x -> x.sheet(4, 0, n), BAD);
            refused("26 no such sheet, and below 0", x -> x.sheet(-1, 0, n), BAD);
            refused("26 no such form, and below 0", x -> x.sheet(0, 3, n), BAD);
            refused("26 no such form, and below 0", x -> x.sheet(0, -1, n), BAD);
        }
    }

    /** "with n items: n"; "(0 at first)". */
    private static void sheetOfEachSize() {
        for (int form = 0; form < 3; form++) {
            for (int n = 0; n <= 60; n++) {
                OneBook x = new OneBook();
                due("26 of " + n, x.sheet(3, form, n), n);
                for (int i = 0; i < n; i++) {
                    due("26 at first", x.get(3, form, i), 0);
                }
                due("26 no finding", x.count(8), 0);
                due("26 no item " + n, x.lay(3, form, n, 1), INDEX);
                due("26 had", x.lose(3), n);
            }
        }
    }

    /** "A SHEET is a new row": of the one before nothing is left. */
    private static void sheetIsANewRow() {
        OneBook x = new OneBook();
        x.sheet(0, 2, 60);
        fill(x, 0, 2, 60, 1000);
        due("26 the same form", x.sheet(0, 2, 60), 60);
        dueItems("26 new", x, 0, 2, new int[60]);
        fill(x, 0, 2, 60, 1000);
        x.lose(0);
        x.sheet(0, 2, 5);
        dueItems("26 new after lost", x, 0, 2, 0, 0, 0, 0, 0);
        due("26 shorter", x.lay(0, 2, 5, 1), INDEX);
        fill(x, 0, 2, 5, 7);
        due("26 another form", x.sheet(0, 1, 6), 6);
        due("26 the form before", x.lay(0, 2, 0, 1), CAST);
        dueItems("26 new in another form", x, 0, 1, 0, 0, 0, 0, 0, 0);
        due("26 another sheet is still lost", x.lose(1), NULL);
    }

    // ---- 27

    /** "BAD; NULL." */
    private static void loseBounds() {
        bounds("27 sheet", 0, 3, OneBook::lose, BAD);
        for (Scene scene : Scene.values()) {
            finding("27 lost", scene, x -> x.lose(3), NULL);
        }
        finding("27 lost at first", Scene.FRESH, x -> x.lose(0), NULL);
    }

    /** "It is LOST: how many items it had." */
    private static void loseTellsHowMany() {
        int[] sizes = {0, 1, 59, 60};
        for (int n : sizes) {
            OneBook x = new OneBook();
            for (int s = 0; s < 4; s++) {
                x.sheet(s, 1, 60 - n);
            }
            x.sheet(2, 1, n);
            due("27 had", x.lose(2), n);
            due("27 lost", x.lose(2), NULL);
            due("27 no item", x.lay(2, 1, 0, 1), NULL);
            due("27 another", x.lose(1), 60 - n);
            due("27 another", x.lose(3), 60 - n);
            due("27 another", x.lose(0), 60 - n);
        }
    }

    // ---- 28

    /** "BAD; NULL; CAST; INDEX." */
    private static void layBounds() {
        bounds("28 sheet", 0, 3, (x, v) -> x.lay(v, 0, 0, 1), BAD);
        bounds("28 form", 0, 2, (x, v) -> x.lay(0, v, 0, 1), BAD);
        finding("28 lost", Scene.RICH, x -> x.lay(3, 0, 0, 1), NULL);
        finding("28 bytes as shorts", Scene.RICH, x -> x.lay(0, 1, 0, 1), CAST);
        finding("28 bytes as ints", Scene.RICH, x -> x.lay(0, 2, 0, 1), CAST);
        finding("28 ints as bytes", Scene.RICH, x -> x.lay(1, 0, 0, 1), CAST);
        finding("28 ints as shorts", Scene.RICH, x -> x.lay(1, 1, 0, 1), CAST);
        finding("28 shorts as bytes", Scene.RICH, x -> x.lay(2, 0, 0, 1), CAST);
        finding("28 shorts as ints", Scene.RICH, x -> x.lay(2, 2, 0, 1), CAST);
        for (int i : new int[] {-1, 5, 6, 60, 256, 65536, LEAST, MOST}) {
            finding("28 no item " + i, Scene.RICH, x -> x.lay(0, 0, i, 1), INDEX);
        }
        for (int i : new int[] {-1, 60, 61, LEAST, MOST}) {
            finding("28 no item " + i + " of sixty", Scene.EIGHT, x -> x.lay(0, 2, i, 1), INDEX);
        }
        for (int i : new int[] {-1, 0, 1, LEAST, MOST}) {
            finding("28 no item " + i + " of none", Scene.FULL, x -> x.lay(0, 0, i, 1), INDEX);
        }
    }

    private static void layRefusesInOrder() {
        refused("28 no such sheet, and lost", x -> x.lay(4, 0, 99, 1), BAD);
        refused("28 no such form, of a lost one", x -> x.lay(3, 3, 0, 1), BAD);
        refused("28 no such form, of a lost one", x -> x.lay(3, -1, 0, 1), BAD);
        refused("28 no such form, and no such item", Scene.RICH, x -> x.lay(0, 3, 5, 1), BAD);
        for (int form = 0; form < 3; form++) {
            int as = form;
            finding("28 lost, as of any form", Scene.RICH, x -> x.lay(3, as, 0, 1), NULL);
            finding("28 lost, and no such item", Scene.RICH, x -> x.lay(3, as, -1, 1), NULL);
        }
        finding("28 another form, and no such item", Scene.RICH, x -> x.lay(0, 1, 5, 1), CAST);
        finding("28 another form, and no such item", Scene.RICH, x -> x.lay(0, 2, -1, 1), CAST);
        finding("28 another form, of no items", Scene.FULL, x -> x.lay(0, 2, 0, 1), CAST);
        OneBook x = new OneBook();
        x.sheet(0, 1, 5);
        x.lose(0);
        due("28 lost, with the form that it had", x.lay(0, 1, 0, 1), NULL);
        due("28 lost, with another form", x.lay(0, 0, 0, 1), NULL);
    }

    /** "becomes v (the lowest bits that it has): 1". */
    private static void layLowestBits() {
        OneBook x = new OneBook();
        int[][] held = {AS_BYTES, AS_SHORTS, LAID};
        for (int form = 0; form < 3; form++) {
            x.sheet(form, form, 1);
            for (int i = 0; i < LAID.length; i++) {
                due("28 laid", x.lay(form, form, 0, LAID[i]), 1);
                due("28 " + LAID[i] + " in form " + form, x.get(form, form, 0), held[form][i]);
            }
        }
    }

    private static void layOneItemOfOneSheet() {
        OneBook x = new OneBook();
        for (int s = 0; s < 4; s++) {
            x.sheet(s, 2, 60);
        }
        due("28 the first", x.lay(2, 2, 0, 5), 1);
        due("28 the last", x.lay(2, 2, 59, 6), 1);
        for (int i = 0; i < 60; i++) {
            due("28 item " + i, x.get(2, 2, i), i == 0 ? 5 : i == 59 ? 6 : 0);
            due("28 item " + i + " of another", x.get(1, 2, i), 0);
            due("28 item " + i + " of another", x.get(3, 2, i), 0);
        }
    }

    // ---- 29

    /** "BAD: the least int". */
    private static void getBounds() {
        for (Scene scene : Scene.values()) {
            refusedBeyond("29 sheet", scene, 0, 3, (x, v) -> x.get(v, 0, 0), LEAST);
            refusedBeyond("29 form", scene, 0, 2, (x, v) -> x.get(0, v, 0), LEAST);
        }
        onlyAsks("29 asked", x -> x.get(4, 0, 0));
    }

    /** "so are NULL, CAST, INDEX (count() 8 tells)". */
    private static void getRefusesInOrder() {
        refused("29 no such form, of a lost one", x -> x.get(3, 3, 0), LEAST);
        refused("29 no such form, and no such item", Scene.RICH, x -> x.get(0, -1, 5), LEAST);
        finding("29 lost", Scene.RICH, x -> x.get(3, 0, 0), LEAST, 1);
        finding("29 lost, and no such item", Scene.RICH, x -> x.get(3, 2, -1), LEAST, 1);
        finding("29 another form", Scene.RICH, x -> x.get(0, 1, 0), LEAST, 3);
        finding("29 another form", Scene.RICH, x -> x.get(1, 0, 2), LEAST, 3);
        finding("29 another form, and no such item", Scene.RICH, x -> x.get(2, 2, 4), LEAST, 3);
        for (int i : new int[] {-1, 5, 6, 60, 256, 65536, LEAST, MOST}) {
            finding("29 no item " + i, Scene.RICH, x -> x.get(0, 0, i), LEAST, 2);
        }
        finding("29 no item 60", Scene.EIGHT, x -> x.get(0, 2, 60), LEAST, 2);
        finding("29 no item of none", Scene.FULL, x -> x.get(0, 0, 0), LEAST, 2);
    }

    private static void getTellsEachItem() {
        OneBook x = Scene.EIGHT.make();
        due("29 first", x.get(0, 2, 0), 1);
        due("29 last", x.get(0, 2, 59), MOST);
        due("29 the least int is an item too", x.get(1, 2, 59), LEAST);
        due("29 and no finding", x.count(8), 0);
        due("29 last byte", x.get(2, 0, 59), -128);
        due("29 no finding", x.count(8), 0);
    }

    // ---- 30

    /** "BAD: the SHEETS". */
    private static void copyBounds() {
        bounds("30 s", 0, 3, (x, v) -> x.copy(v, 0, 0, 0, 0), BAD);
        bounds("30 t", 0, 3, (x, v) -> x.copy(0, 0, v, 0, 0), BAD);
    }

    /** "BAD: the SHEETS; NULL: s, t; STORE; INDEX". */
    private static void copyRefusesInOrder() {
        refused("30 no such t, and s is lost", x -> x.copy(3, 0, 4, 0, 1), BAD);
        refused("30 no such s, and t is lost", x -> x.copy(-1, 0, 3, 0, 1), BAD);
        refused("30 no such t, and below 0", x -> x.copy(0, -1, 4, -1, -1), BAD);
        finding("30 s is lost", Scene.RICH, x -> x.copy(3, 0, 0, 0, 1), NULL);
        finding("30 t is lost", Scene.RICH, x -> x.copy(0, 0, 3, 0, 1), NULL);
        finding("30 s is lost, no items", Scene.RICH, x -> x.copy(3, 0, 1, 0, 0), NULL);
        finding("30 t is lost, no items", Scene.RICH, x -> x.copy(1, 0, 3, 0, 0), NULL);
        finding("30 both are lost", Scene.RICH, x -> x.copy(3, 0, 3, 0, 1), NULL);
        finding("30 t is lost, and below 0", Scene.RICH, x -> x.copy(0, -1, 3, 0, -1), NULL);
        finding("30 s is lost, and not so many", Scene.RICH, x -> x.copy(3, 0, 0, 0, 61), NULL);
        for (int[] two : new int[][] {{0, 1}, {0, 2}, {1, 0}, {1, 2}, {2, 0}, {2, 1}}) {
            finding("30 unlike forms", Scene.RICH, x -> x.copy(two[0], 0, two[1], 0, 1), STORE);
            finding("30 unlike forms, no items", Scene.RICH, x -> x.copy(two[0], 0, two[1], 0, 0), STORE);
            finding("30 unlike forms, and below 0", Scene.RICH, x -> x.copy(two[0], -1, two[1], 0, 1), STORE);
            finding("30 unlike forms, and not so many", Scene.RICH, x -> x.copy(two[0], 0, two[1], 0, 61), STORE);
        }
        finding("30 unlike forms of no items", Scene.FULL, x -> x.copy(0, 0, 1, 0, 0), STORE);
    }

    /** "INDEX: below 0, not so many": in SHEET s (five items), in SHEET t (three); nothing is copied then. */
    private static void copyBeyondEitherRow() {
        int[][] beyond = {{-1, 0, 1}, {0, -1, 1}, {0, 0, -1}, {0, 0, 4}, {0, 1, 3}, {0, 3, 1}, {3, 0, 3}, {5, 0, 1}, {4, 0, 2},
            {6, 0, 0}, {0, 4, 0}, {-1, 0, 0}, {0, -1, 0}, {LEAST, 0, 1}, {0, LEAST, 1}, {0, 0, LEAST}, {MOST, 0, 1},
            {0, MOST, 1}, {0, 0, MOST}, {1, 1, MOST}, {MOST, MOST, MOST}, {LEAST, LEAST, LEAST}, {MOST, 0, 0},
            {0, MOST, 0}, {-1, 0, 2}, {0, -1, 2}, {LEAST, 0, MOST}, {5, 3, LEAST}, {6, 0, -1}, {0, 4, -1}};
        for (int[] b : beyond) {
            OneBook x = new OneBook();
            x.sheet(1, 1, 5);
            x.sheet(2, 1, 3);
            fill(x, 1, 1, 5, 10);
            fill(x, 2, 1, 3, 20);
            due("30 from " + b[0] + " to " + b[1] + ", " + b[2], x.copy(1, b[0], 2, b[1], b[2]), INDEX);
            due("30 finding", x.count(8), 2);
            dueItems("30 s", x, 1, 1, 10, 11, 12, 13, 14);
            dueItems("30 t", x, 2, 1, 20, 21, 22);
        }
        finding("30 within one row", Scene.EIGHT, x -> x.copy(0, 0, 0, 1, 60), INDEX);
        finding("30 within one row", Scene.EIGHT, x -> x.copy(0, 59, 0, 0, 2), INDEX);
        finding("30 61 items", Scene.EIGHT, x -> x.copy(0, 0, 1, 0, 61), INDEX);
        finding("30 of no items", Scene.FULL, x -> x.copy(0, 0, 2, 0, 1), INDEX);
    }

    private static void copyOfNoItems() {
        OneBook x = Scene.FULL.make();
        due("30 none of none", x.copy(0, 0, 2, 0, 0), 1);
        due("30 none of none, to oneself", x.copy(0, 0, 0, 0, 0), 1);
        due("30 none at the end", x.copy(1, 1, 1, 1, 0), 1);
        due("30 no finding", x.count(8), 0);
        due("30 kept", Arrays.equals(shown(x), shown(Scene.FULL.make())) ? 1 : 0, 1);
    }

    /** "n items of SHEET s, from i on, come to SHEET t ..., from j on: 1". */
    private static void copyOfWholeRows() {
        OneBook x = Scene.EIGHT.make();
        fill(x, 0, 2, 60, 500);
        due("30 sixty", x.copy(0, 0, 1, 0, 60), 1);
        for (int i = 0; i < 60; i++) {
            due("30 came " + i, x.get(1, 2, i), 500 + i);
            due("30 stays " + i, x.get(0, 2, i), 500 + i);
        }
        due("30 the last to the first", x.copy(0, 59, 1, 0, 1), 1);
        due("30 the first to the last", x.copy(0, 0, 1, 59, 1), 1);
        due("30 came", x.get(1, 2, 0), 559);
        due("30 beside", x.get(1, 2, 1), 501);
        due("30 beside", x.get(1, 2, 58), 558);
        due("30 came", x.get(1, 2, 59), 500);
        x.lay(0, 2, 3, 1);
        due("30 each is its own row", x.get(1, 2, 3), 503);
    }

    /** "(perhaps s, as they were)". */
    private static void copyAsTheyWere() {
        for (int form = 0; form < 3; form++) {
            OneBook x = new OneBook();
            x.sheet(0, form, 5);
            fill(x, 0, form, 5, 1);
            due("30 up", x.copy(0, 0, 0, 1, 4), 1);
            dueItems("30 up", x, 0, form, 1, 1, 2, 3, 4);
            fill(x, 0, form, 5, 1);
            due("30 down", x.copy(0, 1, 0, 0, 4), 1);
            dueItems("30 down", x, 0, form, 2, 3, 4, 5, 5);
            fill(x, 0, form, 5, 1);
            due("30 where they are", x.copy(0, 0, 0, 0, 5), 1);
            dueItems("30 where they are", x, 0, form, 1, 2, 3, 4, 5);
            due("30 two apart", x.copy(0, 3, 0, 0, 2), 1);
            dueItems("30 two apart", x, 0, form, 4, 5, 3, 4, 5);
        }
    }

    // ---- 31

    /** "BAD; NULL." */
    private static void writeBounds() {
        bounds("31 reader", 0, 5, (x, v) -> x.write(v, 0), BAD);
        bounds("31 sheet", 0, 3, (x, v) -> x.write(0, v), BAD);
        for (Scene scene : Scene.values()) {
            finding("31 lost", scene, x -> x.write(5, 3), NULL);
        }
        refused("31 lost, and no such reader", x -> x.write(6, 3), BAD);
        refused("31 lost, and no such reader", x -> x.write(-1, 3), BAD);
    }

    /** "from item 0 on, as many as there are items and CHAPTERS: how many". */
    private static void writeAsManyAsThereAre() {
        for (int there = 0; there <= 8; there++) {
            for (int n : new int[] {0, 1, 7, 8, 9, 60}) {
                OneBook x = book("p03;p06;p09;p12;p15;p18;p21;p24".substring(0, Math.max(0, 4 * there - 1)));
                x.sheet(3, 1, n);
                fill(x, 3, 1, n, 70);
                due("31 " + there + " to " + n, x.write(2, 3), Math.min(there, n));
                for (int i = 0; i < n; i++) {
                    due("31 item " + i, x.get(3, 1, i), i < there ? i + 1 : 70 + i);
                }
            }
        }
    }

    /** A TIME comes to an item as lay() puts it: the lowest bits that it has. */
    private static void writeLowestBits() {
        OneBook x = book("p63;p64;p99");
        x.pace(0, 0, 1);
        likeAll(x, 0);
        int[][] held = {{126, -128, -58}, {126, 128, 198}, {126, 128, 198}};
        for (int form = 0; form < 3; form++) {
            x.sheet(form, form, 3);
            due("31 three", x.write(0, form), 3);
            dueItems("31 in form " + form, x, form, form, held[form]);
        }
        x.skip(1, 1);
        x.sheet(0, 2, 3);
        due("31 one is skipped", x.write(0, 0), 3);
        dueItems("31 its time all the same", x, 0, 2, 126, 128, 198);
    }

    private static void writeOfNothing() {
        OneBook x = Scene.FULL.make();
        due("31 with a fault", x.write(0, 1), 0);
        due("31 kept", x.get(1, 1, 0), 5);
        due("31 four to five items", Scene.RICH.make().write(0, 0), 4);
        OneBook none = Scene.RICH.make();
        none.sheet(0, 0, 0);
        due("31 to no items", none.write(0, 0), 0);
        due("31 no finding", none.count(8), 0);
    }

    // ---- 32

    /** "BAD." */
    private static void countBounds() {
        bounds("32 what", 0, 8, OneBook::count, BAD);
        for (int what = 0; what <= 8; what++) {
            int asked = what;
            onlyAsks("32 asked", x -> x.count(asked));
        }
    }

    private static void countOfNothing() {
        OneBook x = new OneBook();
        int[] first = {0, 0, 0, 0, 0, 0, 120, 60, 0};
        for (int what = 0; what <= 8; what++) {
            due("32 at first " + what, x.count(what), first[what]);
        }
    }

    private static void countOfMost() {
        OneBook x = book(chapters("d99", 8));
        skipAll(x);
        for (int r = 0; r < 6; r++) {
            likeAll(x, r);
        }
        for (int i = 0; i < 8; i++) {
            x.turn(i, 63, 0);
        }
        x.set(0, 999);
        x.set(1, 999);
        x.sheet(0, 0, -1);
        int[] most = {8, 31, 792, 8, 48, 8, 999, 999, 5};
        for (int what = 0; what <= 8; what++) {
            due("32 most " + what, x.count(what), most[what]);
        }
        typeAll(x, ";".repeat(30));
        int[] faulty = {0, 60, 0, 0, 0, 8, 999, 999, 5};
        for (int what = 0; what <= 8; what++) {
            due("32 full, with a fault " + what, x.count(what), faulty[what]);
        }
    }

    /** "SKIPPED ones that there are"; "LIKES of READERS for CHAPTERS that there are". */
    private static void countOfWhatThereIs() {
        OneBook x = new OneBook();
        skipAll(x);
        for (int r = 0; r < 6; r++) {
            likeAll(x, r);
        }
        for (int n = 1; n <= 8; n++) {
            typeAll(x, n == 1 ? "p01" : ";p01");
            due("32 chapters", x.count(0), n);
            due("32 bytes", x.count(1), 4 * n - 1);
            due("32 lines", x.count(2), n);
            due("32 skipped", x.count(3), n);
            due("32 likes", x.count(4), 6 * n);
        }
    }

    /** "8 the number of the latest FINDING (0 before any)"; "answers -10 less the number". */
    private static void countOfFindings() {
        OneBook x = Scene.RICH.make();
        due("32 before any", x.count(8), 0);
        due("32 null", x.lose(3), -11);
        due("32 null", x.count(8), 1);
        due("32 index", x.lay(0, 0, 5, 0), -12);
        due("32 index", x.count(8), 2);
        due("32 cast", x.lay(0, 1, 0, 0), -13);
        due("32 cast", x.count(8), 3);
        due("32 store", x.copy(0, 0, 1, 0, 0), -14);
        due("32 store", x.count(8), 4);
        due("32 size", x.sheet(0, 0, -1), -15);
        due("32 size", x.count(8), 5);
        x.get(0, 0, 5);
        due("32 by get", x.count(8), 2);
        x.lay(0, 0, 0, 1);
        x.sheet(3, 0, 1);
        x.lose(3);
        x.wipe();
        x.forget();
        due("32 stays after calls that are well", x.count(8), 2);
    }

    // ---- 33

    private static void digestOfEachScene() {
        for (Scene scene : Scene.values()) {
            OneBook x = scene.make();
            due("33 of " + scene, x.digest(), DigestSum.of(x).longValue());
        }
    }

    /** By fixed seeds, so that each number of the digest differs from those beside it in some object. */
    private static void digestOfUnlikeReaders() {
        for (int seed = 0; seed < 60; seed++) {
            Random random = new Random(seed);
            OneBook x = book("p10;v15;d12;p08;v07".substring(0, 3 + 4 * random.nextInt(5)));
            for (int r = 0; r < 6; r++) {
                for (int i = 0; i < 3; i++) {
                    x.pace(r, i, 1 + random.nextInt(9));
                    x.reader(r, i, random.nextInt(5));
                }
                x.reader(r, 1, random.nextInt(2));
                x.like(r, random.nextInt(5), 1);
                x.turn(r, 1 << r | 1 + random.nextInt(63), random.nextInt(15));
            }
            x.skip(random.nextInt(8), 1);
            x.set(0, random.nextInt(60));
            x.set(1, random.nextInt(60));
            due("33 of seed " + seed, x.digest(), DigestSum.of(x).longValue());
        }
    }

    /** "as longs that wrap". */
    private static void digestWraps() {
        for (Scene scene : Scene.values()) {
            OneBook x = scene.make();
            due("33 the sum of " + scene + " is beyond a long", DigestSum.of(x).bitLength() > 64 ? 1 : 0, 1);
        }
    }

    private static void digestChangesNothing() {
        onlyAsks("33 asked", OneBook::digest);
        for (Scene scene : Scene.values()) {
            OneBook x = scene.make();
            due("33 again in " + scene, x.digest(), x.digest());
        }
    }

    /** count() "0 to 7": neither FINDINGS nor SHEETS are in it. */
    private static void digestWithoutSheets() {
        OneBook x = Scene.RICH.make();
        long before = x.digest();
        x.lay(0, 0, 0, 77);
        x.lose(1);
        x.lose(1);
        x.sheet(3, 2, 60);
        due("33 of other sheets", x.digest(), before);
        due("33 of another finding", x.count(8), 1);
    }
}
