/** States that an object is brought to by calls. SHEET 3 is LOST in all, and none has had a FINDING. */
enum Scene {
    FRESH(""),

    /** Some of everything. SHEETS: 0 five bytes, 1 three ints, 2 four shorts. */
    RICH("""
        text p30;v08;d21;p09
        pace 0 0 5
        pace 0 1 1
        pace 1 2 7
        pace 4 0 9
        pace 5 1 2
        like 0 2 1
        like 3 0 1
        like 5 7 1
        skip 1 1
        skip 6 1
        reader 0 0 10
        reader 1 0 99
        reader 1 1 0
        reader 2 2 3
        reader 4 2 1
        set 0 40
        set 1 20
        turn 0 3 10
        turn 3 9 3
        turn 6 1 7
        sheet 0 0 5
        lay 0 0 0 4
        lay 0 0 1 9
        lay 0 0 2 10
        lay 0 0 4 -1
        sheet 1 2 3
        lay 1 2 0 70000
        lay 1 2 2 -70000
        sheet 2 1 4
        lay 2 1 0 1
        lay 2 1 3 -300
        """),

    /** As much as there may be without a FAULT. SHEETS 0 and 1: sixty ints, 2: sixty bytes. */
    EIGHT("""
        text p99;v99;d99;p99;v99;d99;p99;v99
        pace 0 0 1
        pace 0 1 1
        pace 0 2 1
        pace 1 0 9
        pace 1 1 9
        pace 1 2 9
        like 0 0 1
        like 0 7 1
        like 5 7 1
        skip 7 1
        reader 0 0 99
        reader 1 1 9
        reader 0 2 4
        reader 1 2 2
        set 0 999
        set 1 999
        turn 0 63 198
        turn 1 63 99
        turn 2 1 99
        turn 3 2 11
        turn 4 4 33
        turn 5 32 33
        turn 6 16 0
        turn 7 63 999
        sheet 0 2 60
        lay 0 2 0 1
        lay 0 2 59 2147483647
        sheet 1 2 60
        lay 1 2 59 -2147483648
        sheet 2 0 60
        lay 2 0 0 9
        lay 2 0 59 -128
        """),

    /** A BOOK that is full, with a FAULT, and no minutes. SHEETS 0 and 2: no bytes, 1: one short. */
    FULL("""
        text p10;v20;d30;p40;v50;d60;p70;v80;p10;v20;d30;p40;v50;d60;p70;
        pace 2 0 9
        like 1 0 1
        skip 0 1
        reader 3 1 0
        set 0 0
        set 1 0
        turn 0 1 0
        turn 7 32 999
        sheet 0 0 0
        sheet 1 1 1
        lay 1 1 0 5
        sheet 2 0 0
        """);

    private final String calls;

    Scene(String calls) {
        this.calls = calls;
    }

    OneBook make() {
        OneBook x = new OneBook();
        bring(x);
        return x;
    }

    void bring(Object x) {
        for (String line : calls.split("\n")) {
            if (!line.isBlank()) {
                Face.run(x, line);
            }
        }
    }
}
