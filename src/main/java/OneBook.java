/**
 * One book and up to six readers: evenings by a candle, plans for two, seeming slow, seats,
 * paces found from turns, and moods by chance. README.md tells how it is used.
 *
 * The face looks at every argument; the classes inside rely on that. All rows are made once
 * with the object and used again, so that no call makes anything.
 */
public final class OneBook {
    public static final int NONE = -1, BAD = -2, NOT = -3, FULL = -4;

    private static final int READERS = 6;
    private static final int ALL_READERS = 63;
    private static final int KINDS = 3;
    private static final int CHAPTERS = 8;
    private static final int FASTEST = 9;
    private static final int MOST_WORK = 99;
    private static final int MOST_JOY = 9;
    private static final int MOST_MOOD = 4;
    private static final int MOST_MINUTES = 999;
    private static final int LAST_MINUTE = 9999;
    private static final int MOODY_READERS = 3;
    private static final int SLOWS = 4;
    private static final int SHEETS = 4;
    private static final int FORMS = 3;
    private static final int MOST_ITEMS = 60;

    private static final int TOGETHER = 0;
    private static final int ALONE = 1;
    private static final int NEITHER = 2;

    private static final int NULL = 1;
    private static final int INDEX = 2;
    private static final int CAST = 3;
    private static final int STORE = 4;
    private static final int SIZE = 5;

    private final Book book;
    private final Company company;
    private final Evening sitting;
    private final Plan plan;
    private final Seeming seeming;
    private final Seating seating;
    private final Turns turns;
    private final Moods moods;
    private final Sheet[] sheets;
    private int candle;
    private int day;
    private int finding;

    public OneBook() {
        book = new Book();
        company = new Company(book);
        sitting = new Evening(company);
        plan = new Plan(company);
        seeming = new Seeming(company);
        seating = new Seating(company);
        turns = new Turns(company);
        moods = new Moods(company);
        sheets = new Sheet[SHEETS];
        for (int s = 0; s < SHEETS; s++) {
            sheets[s] = new Sheet();
        }
        candle = 120;
        day = 60;
        finding = 0;
    }

    // ---- the book, readers

    public int type(int b) {
        if (!within(b, 0, 255)) {
            return BAD;
        }
        return book.append(b) ? book.size() : FULL;
    }

    public int wipe() {
        int had = book.size();
        book.clear();
        return had;
    }

    public int fault() {
        return book.faultPlace();
    }

    public int chapter(int chapter, int what) {
        if (!isChapter(chapter) || !within(what, 0, 2)) {
            return BAD;
        }
        if (what == 0) {
            return book.kindOf(chapter);
        }
        return what == 1 ? book.linesOf(chapter) : asNumber(company.isSkipped(chapter));
    }

    public int pace(int reader, int kind, int v) {
        if (!isReader(reader) || !isKind(kind) || !within(v, 1, FASTEST)) {
            return BAD;
        }
        return company.person(reader).changePace(kind, v);
    }

    public int read(int s, int reader) {
        if (!isSheet(s) || !isReader(reader)) {
            return BAD;
        }
        Sheet sheet = sheets[s];
        if (sheet.isLost()) {
            return found(NULL);
        }
        int most = Math.min(KINDS, sheet.size());
        int kind = 0;
        while (kind < most && within(sheet.item(kind), 1, FASTEST)) {
            company.person(reader).changePace(kind, sheet.item(kind));
            kind++;
        }
        return kind;
    }

    public int like(int reader, int chapter, int v) {
        if (!isReader(reader) || !within(chapter, 0, CHAPTERS - 1) || !within(v, 0, 1)) {
            return BAD;
        }
        return asNumber(company.person(reader).changeLike(chapter, v == 1));
    }

    public int skip(int chapter, int v) {
        if (!within(chapter, 0, CHAPTERS - 1) || !within(v, 0, 1)) {
            return BAD;
        }
        return asNumber(company.changeSkip(chapter, v == 1));
    }

    public int reader(int reader, int what, int v) {
        if (!isReader(reader) || !within(what, 0, 2) || !within(v, 0, mostOfTrait(what))) {
            return BAD;
        }
        return company.person(reader).changeTrait(what, v);
    }

    public int set(int what, int v) {
        if (!within(what, 0, 1) || !within(v, 0, MOST_MINUTES)) {
            return BAD;
        }
        int was = what == 0 ? candle : day;
        if (what == 0) {
            candle = v;
        } else {
            day = v;
        }
        return was;
    }

    public int time(int reader, int chapter) {
        if (!isReader(reader) || !isChapter(chapter)) {
            return BAD;
        }
        return company.minutes(reader, chapter);
    }

    // ---- evenings (readers: 1 to 63)

    public int evening(int readers, int from, int what) {
        if (!isCompany(readers) || !isChapter(from) || !within(what, 0, 2)) {
            return BAD;
        }
        sitting.sit(readers, from, candle);
        if (what == 0) {
            return sitting.chapters();
        }
        return what == 1 ? sitting.minute() : sitting.next();
    }

    public int waited(int readers, int from, int reader, int what) {
        if (!isCompany(readers) || !isChapter(from) || !within(what, 0, 1)) {
            return BAD;
        }
        if (!isReader(reader) || !holds(readers, reader)) {
            return BAD;
        }
        sitting.sit(readers, from, candle);
        return what == 0 ? sitting.waitOf(reader) : sitting.workLeft(reader);
    }

    public int best(int a, int b, int what) {
        if (!areTwo(a, b) || !within(what, 0, 2)) {
            return BAD;
        }
        plan.search(a, b, candle, day);
        if (what == 0) {
            return plan.lines();
        }
        return what == 1 ? plan.waits() : plan.minutes();
    }

    public int how(int a, int b, int chapter) {
        if (!areTwo(a, b) || !isChapter(chapter)) {
            return BAD;
        }
        plan.search(a, b, candle, day);
        return plan.wayOf(chapter);
    }

    // ---- seeming slow, pairs

    public int gain(int a, int b, int slowA, int slowB) {
        if (!areTwo(a, b) || !within(slowA, 0, SLOWS - 1) || !within(slowB, 0, SLOWS - 1)) {
            return -10000 + BAD;
        }
        return seeming.gainOf(a, b, slowA, slowB);
    }

    public int rests(int a, int b, int i) {
        if (!areTwo(a, b) || i < NONE) {
            return BAD;
        }
        seeming.findRests(a, b);
        return i == NONE ? seeming.restCount() : seeming.restAt(i);
    }

    public int pairs(int readers, int reader) {
        if (!isCompany(readers)) {
            return BAD;
        }
        if (reader != NONE && (!isReader(reader) || !holds(readers, reader))) {
            return BAD;
        }
        if (Integer.bitCount(readers) % 2 != 0) {
            return NOT;
        }
        seating.seat(readers);
        return reader == NONE ? seating.minutes() : seating.partnerOf(reader);
    }

    // ---- turns, moods

    public int turn(int chapter, int readers, int minutes) {
        if (!within(chapter, 0, CHAPTERS - 1) || !isCompany(readers) || !within(minutes, 0, MOST_MINUTES)) {
            return BAD;
        }
        return turns.append(chapter, readers, minutes) ? turns.size() : FULL;
    }

    public int forget() {
        int had = turns.size();
        turns.clear();
        return had;
    }

    public int paces(int reader, int kind) {
        if (!isReader(reader) || !isKind(kind)) {
            return BAD;
        }
        return turns.fittingPaces(reader, kind);
    }

    public int unlike() {
        return turns.countUnlike();
    }

    public long done(int readers, int minute, int what) {
        if (!isCompany(readers) || !within(minute, 0, LAST_MINUTE) || !within(what, 0, 1)) {
            return refusedLong(BAD);
        }
        if (Integer.bitCount(readers) > MOODY_READERS) {
            return refusedLong(FULL);
        }
        moods.chanceBy(readers, minute);
        return what == 0 ? moods.above() : moods.below();
    }

    public long mean(int readers, int what) {
        if (!isCompany(readers) || !within(what, 0, 1)) {
            return refusedLong(BAD);
        }
        if (Integer.bitCount(readers) > MOODY_READERS) {
            return refusedLong(FULL);
        }
        moods.meanMinutes(readers);
        return what == 0 ? moods.above() : moods.below();
    }

    // ---- sheets

    public int sheet(int s, int form, int n) {
        if (!isSheet(s) || !isForm(form) || n > MOST_ITEMS) {
            return BAD;
        }
        if (n < 0) {
            return found(SIZE);
        }
        sheets[s].renew(form, n);
        return n;
    }

    public int lose(int s) {
        if (!isSheet(s)) {
            return BAD;
        }
        if (sheets[s].isLost()) {
            return found(NULL);
        }
        int had = sheets[s].size();
        sheets[s].drop();
        return had;
    }

    public int lay(int s, int form, int i, int v) {
        if (!isSheet(s) || !isForm(form)) {
            return BAD;
        }
        int wrong = findingAt(sheets[s], form, i);
        if (wrong != 0) {
            return found(wrong);
        }
        sheets[s].put(i, v);
        return 1;
    }

    public int get(int s, int form, int i) {
        if (!isSheet(s) || !isForm(form)) {
            return Integer.MIN_VALUE;
        }
        int wrong = findingAt(sheets[s], form, i);
        if (wrong != 0) {
            finding = wrong;
            return Integer.MIN_VALUE;
        }
        return sheets[s].item(i);
    }

    public int copy(int s, int i, int t, int j, int n) {
        if (!isSheet(s) || !isSheet(t)) {
            return BAD;
        }
        Sheet from = sheets[s];
        Sheet to = sheets[t];
        if (from.isLost() || to.isLost()) {
            return found(NULL);
        }
        if (from.form() != to.form()) {
            return found(STORE);
        }
        if (!from.spans(i, n) || !to.spans(j, n)) {
            return found(INDEX);
        }
        to.takeFrom(from, i, j, n);
        return 1;
    }

    public int write(int reader, int s) {
        if (!isReader(reader) || !isSheet(s)) {
            return BAD;
        }
        Sheet sheet = sheets[s];
        if (sheet.isLost()) {
            return found(NULL);
        }
        int most = Math.min(book.chapters(), sheet.size());
        for (int c = 0; c < most; c++) {
            sheet.put(c, company.minutes(reader, c));
        }
        return most;
    }

    public int count(int what) {
        switch (what) {
            case 0: return book.chapters();
            case 1: return book.size();
            case 2: return book.allLines();
            case 3: return company.countSkipped();
            case 4: return company.countLikes();
            case 5: return turns.size();
            case 6: return candle;
            case 7: return day;
            case 8: return finding;
            default: return BAD;
        }
    }

    public long digest() {
        long h = 17;
        for (int what = 0; what <= 7; what++) {
            h = mix(h, count(what));
        }
        h = mix(h, fault());
        plan.search(0, 1, candle, day);
        for (int c = 0; c < book.chapters(); c++) {
            h = mixChapter(h, c);
        }
        h = mixPlan(h);
        plan.search(4, 5, candle, day);
        h = mixPlan(h);
        h = mixSeeming(h);
        h = mixSeats(h);
        h = mix(h, unlike());
        return mixMoods(h);
    }

    // ---- parts of the digest

    private static long mix(long h, long value) {
        return 31 * h + value;
    }

    /** Relies on the plan of READERS 0 and 1, which digest() has searched once for all CHAPTERS. */
    private long mixChapter(long before, int c) {
        long h = before;
        for (int what = 0; what <= 2; what++) {
            h = mix(h, chapter(c, what));
        }
        for (int r = 0; r < READERS; r++) {
            h = mix(h, company.minutes(r, c));
        }
        sitting.sit(3, c, candle);
        h = mix(h, sitting.chapters());
        h = mix(h, sitting.minute());
        h = mix(h, sitting.next());
        h = mix(h, sitting.waitOf(1));
        h = mix(h, sitting.workLeft(1));
        return mix(h, plan.wayOf(c));
    }

    private long mixPlan(long before) {
        long h = mix(before, plan.lines());
        h = mix(h, plan.waits());
        return mix(h, plan.minutes());
    }

    private long mixSeeming(long before) {
        seeming.findRests(0, 1);
        long h = mix(before, seeming.restCount());
        h = mix(h, seeming.restAt(0));
        h = mix(h, seeming.gainOf(0, 1, 2, 1));
        return mix(h, seeming.gainOf(1, 0, 1, 2));
    }

    private long mixSeats(long before) {
        seating.seat(ALL_READERS);
        long h = mix(before, seating.minutes());
        for (int r = 0; r < READERS; r++) {
            h = mix(h, seating.partnerOf(r));
            for (int kind = 0; kind < KINDS; kind++) {
                h = mix(h, turns.fittingPaces(r, kind));
            }
        }
        return h;
    }

    private long mixMoods(long before) {
        moods.chanceBy(7, 60);
        long h = mix(before, moods.above());
        h = mix(h, moods.below());
        moods.meanMinutes(7);
        h = mix(h, moods.above());
        return mix(h, moods.below());
    }

    // ---- what arguments may be, and refusals

    private static boolean within(int v, int least, int most) {
        return v >= least && v <= most;
    }

    private static boolean isReader(int reader) {
        return within(reader, 0, READERS - 1);
    }

    private static boolean areTwo(int a, int b) {
        return isReader(a) && isReader(b) && a != b;
    }

    private static boolean isCompany(int readers) {
        return within(readers, 1, ALL_READERS);
    }

    private static boolean holds(int readers, int reader) {
        return (readers >> reader & 1) == 1;
    }

    private static boolean isKind(int kind) {
        return within(kind, 0, KINDS - 1);
    }

    private static boolean isSheet(int s) {
        return within(s, 0, SHEETS - 1);
    }

    private static boolean isForm(int form) {
        return within(form, 0, FORMS - 1);
    }

    private boolean isChapter(int chapter) {
        return within(chapter, 0, book.chapters() - 1);
    }

    private static int mostOfTrait(int what) {
        if (what == Reader.WORK) {
            return MOST_WORK;
        }
        return what == Reader.JOY ? MOST_JOY : MOST_MOOD;
    }

    private static int asNumber(boolean is) {
        return is ? 1 : 0;
    }

    private static long refusedLong(int refusal) {
        return Long.MIN_VALUE - refusal;
    }

    private int found(int number) {
        finding = number;
        return -10 - number;
    }

    /** The FINDING that stands between a call and item i of a SHEET; 0 where there is none. */
    private static int findingAt(Sheet sheet, int form, int i) {
        if (sheet.isLost()) {
            return NULL;
        }
        if (sheet.form() != form) {
            return CAST;
        }
        return sheet.spans(i, 1) ? 0 : INDEX;
    }

    /** THE BOOK as it was typed, and the CHAPTERS that it tells. */
    private static final class Book {
        private static final int MOST_BYTES = 60;
        /** A letter, two figures, and the ; before the next. */
        private static final int STEP = 4;

        private final int[] bytes = new int[MOST_BYTES];
        private final int[] kinds = new int[CHAPTERS];
        private final int[] lines = new int[CHAPTERS];
        private int size = 0;
        private int chapters = 0;
        private int fault = NONE;

        boolean append(int b) {
            if (size >= MOST_BYTES) {
                return false;
            }
            bytes[size] = b;
            size++;
            parse();
            return true;
        }

        void clear() {
            size = 0;
            parse();
        }

        int size() {
            return size;
        }

        int faultPlace() {
            return fault;
        }

        int chapters() {
            return chapters;
        }

        int kindOf(int chapter) {
            return kinds[chapter];
        }

        int linesOf(int chapter) {
            return lines[chapter];
        }

        int allLines() {
            int sum = 0;
            for (int c = 0; c < chapters; c++) {
                sum += lines[c];
            }
            return sum;
        }

        private void parse() {
            fault = findFault();
            chapters = fault == NONE ? (size + 1) / STEP : 0;
            for (int c = 0; c < chapters; c++) {
                kinds[c] = kindAt(c * STEP);
                lines[c] = 10 * figureAt(c * STEP + 1) + figureAt(c * STEP + 2);
            }
        }

        private int findFault() {
            for (int place = 0; place < size; place++) {
                if (place >= CHAPTERS * STEP || !goesOn(place)) {
                    return place;
                }
                if (place % STEP == 2 && figureAt(place - 1) == 0 && figureAt(place) == 0) {
                    return place - 1;
                }
            }
            return size == 0 || size % STEP == STEP - 1 ? NONE : size;
        }

        private boolean goesOn(int place) {
            switch (place % STEP) {
                case 0: return kindAt(place) != NONE;
                case 3: return bytes[place] == ';';
                default: return figureAt(place) != NONE;
            }
        }

        private int kindAt(int place) {
            switch (bytes[place]) {
                case 'p': return 0;
                case 'v': return 1;
                case 'd': return 2;
                default: return NONE;
            }
        }

        private int figureAt(int place) {
            int b = bytes[place];
            return b >= '0' && b <= '9' ? b - '0' : NONE;
        }
    }

    /** One READER: PACES, LIKES, and the three numbers that reader() sets. */
    private static final class Reader {
        private static final int WORK = 0;
        private static final int JOY = 1;
        private static final int MOOD = 2;

        private final int[] speeds = {3, 3, 3};
        private final boolean[] liked = new boolean[CHAPTERS];
        private final int[] traits = {0, 1, 0};

        int speedFor(int kind) {
            return speeds[kind];
        }

        int changePace(int kind, int v) {
            int was = speeds[kind];
            speeds[kind] = v;
            return was;
        }

        boolean likes(int chapter) {
            return liked[chapter];
        }

        boolean changeLike(int chapter, boolean v) {
            boolean was = liked[chapter];
            liked[chapter] = v;
            return was;
        }

        int work() {
            return traits[WORK];
        }

        int joy() {
            return traits[JOY];
        }

        int mood() {
            return traits[MOOD];
        }

        int changeTrait(int what, int v) {
            int was = traits[what];
            traits[what] = v;
            return was;
        }
    }

    /** THE BOOK, the READERS and what is SKIPPED: all that TIMES hang on. */
    private static final class Company {
        private final Book book;
        private final Reader[] people = new Reader[READERS];
        private final boolean[] skipped = new boolean[CHAPTERS];

        Company(Book book) {
            this.book = book;
            for (int r = 0; r < READERS; r++) {
                people[r] = new Reader();
            }
        }

        Reader person(int reader) {
            return people[reader];
        }

        int chapters() {
            return book.chapters();
        }

        int kindOf(int chapter) {
            return book.kindOf(chapter);
        }

        int linesOf(int chapter) {
            return book.linesOf(chapter);
        }

        boolean isSkipped(int chapter) {
            return skipped[chapter];
        }

        boolean changeSkip(int chapter, boolean v) {
            boolean was = skipped[chapter];
            skipped[chapter] = v;
            return was;
        }

        int countSkipped() {
            int n = 0;
            for (int c = 0; c < chapters(); c++) {
                n += skipped[c] ? 1 : 0;
            }
            return n;
        }

        int countLikes() {
            int n = 0;
            for (int r = 0; r < READERS; r++) {
                for (int c = 0; c < chapters(); c++) {
                    n += people[r].likes(c) ? 1 : 0;
                }
            }
            return n;
        }

        int minutes(int reader, int chapter) {
            return minutesAt(reader, chapter, people[reader].speedFor(book.kindOf(chapter)));
        }

        int minutesAt(int reader, int chapter, int speed) {
            if (speed < 1) {
                return 0;
            }
            int once = (book.linesOf(chapter) + speed - 1) / speed;
            return people[reader].likes(chapter) ? 2 * once : once;
        }

        /** The greatest TIME in a set; 0 of an empty one. */
        int together(int readers, int chapter) {
            int kind = book.kindOf(chapter);
            int greatest = 0;
            for (int r = 0; r < READERS; r++) {
                if (holds(readers, r)) {
                    greatest = Math.max(greatest, minutesAt(r, chapter, people[r].speedFor(kind)));
                }
            }
            return greatest;
        }

        /** How long two WAIT, both together, over all CHAPTERS that are not SKIPPED. */
        int waitOfTwo(int a, int b) {
            int sum = 0;
            for (int c = 0; c < chapters(); c++) {
                if (!skipped[c]) {
                    sum += Math.abs(minutes(a, c) - minutes(b, c));
                }
            }
            return sum;
        }
    }

    /** The EVENING that was last asked for. */
    private static final class Evening {
        private final Company company;
        private final int[] waits = new int[READERS];
        private int chapters = 0;
        private int minute = 0;
        private int next = NONE;

        Evening(Company company) {
            this.company = company;
        }

        void sit(int readers, int from, int candle) {
            chapters = 0;
            minute = 0;
            next = NONE;
            for (int r = 0; r < READERS; r++) {
                waits[r] = 0;
            }
            for (int c = from; c < company.chapters() && next == NONE; c++) {
                if (!company.isSkipped(c)) {
                    readOrStop(readers, c, candle);
                }
            }
        }

        private void readOrStop(int readers, int chapter, int candle) {
            int length = company.together(readers, chapter);
            if (minute + length > candle) {
                next = chapter;
                return;
            }
            chapters++;
            minute += length;
            for (int r = 0; r < READERS; r++) {
                if (holds(readers, r)) {
                    waits[r] += length - company.minutes(r, chapter);
                }
            }
        }

        int chapters() {
            return chapters;
        }

        int minute() {
            return minute;
        }

        int next() {
            return next;
        }

        int waitOf(int reader) {
            return waits[reader];
        }

        int workLeft(int reader) {
            return Math.max(0, company.person(reader).work() - waits[reader]);
        }
    }

    /** The BEST row of two READERS, found by trying rows from the least on. */
    private static final class Plan {
        private final Company company;
        private final int[] timesA = new int[CHAPTERS];
        private final int[] timesB = new int[CHAPTERS];
        private final int[] row = new int[CHAPTERS];
        private final int[] bestRow = new int[CHAPTERS];
        /** LINES that can still be read from a CHAPTER on. */
        private final int[] linesFrom = new int[CHAPTERS + 1];
        private int candle = 0;
        private int day = 0;
        private int bestLines = 0;
        private int bestWaits = 0;
        private int bestMinutes = 0;

        Plan(Company company) {
            this.company = company;
        }

        void search(int a, int b, int candleMinutes, int dayMinutes) {
            candle = candleMinutes;
            day = dayMinutes;
            bestLines = NONE;
            bestWaits = 0;
            bestMinutes = 0;
            linesFrom[company.chapters()] = 0;
            for (int c = company.chapters() - 1; c >= 0; c--) {
                timesA[c] = company.minutes(a, c);
                timesB[c] = company.minutes(b, c);
                linesFrom[c] = linesFrom[c + 1] + (company.isSkipped(c) ? 0 : company.linesOf(c));
            }
            choose(0, 0, 0, 0, 0, 0);
        }

        private void choose(int chapter, int lines, int waits, int minutes, int aloneA, int aloneB) {
            if (minutes > candle || aloneA > day || aloneB > day || isNoBetter(chapter, lines, waits)) {
                return;
            }
            if (chapter >= company.chapters()) {
                keep(lines, waits, minutes);
                return;
            }
            if (!company.isSkipped(chapter)) {
                int a = timesA[chapter];
                int b = timesB[chapter];
                int more = lines + company.linesOf(chapter);
                row[chapter] = TOGETHER;
                choose(chapter + 1, more, waits + Math.abs(a - b), minutes + Math.max(a, b), aloneA, aloneB);
                row[chapter] = ALONE;
                choose(chapter + 1, more, waits, minutes, aloneA + a, aloneB + b);
            }
            row[chapter] = NEITHER;
            choose(chapter + 1, lines, waits, minutes, aloneA, aloneB);
        }

        /** Rows come from the least on, so one that is only as good as the kept one is no better. */
        private boolean isNoBetter(int chapter, int lines, int waits) {
            int reach = lines + linesFrom[chapter];
            return reach < bestLines || reach == bestLines && waits >= bestWaits;
        }

        private void keep(int lines, int waits, int minutes) {
            bestLines = lines;
            bestWaits = waits;
            bestMinutes = minutes;
            System.arraycopy(row, 0, bestRow, 0, CHAPTERS);
        }

        int lines() {
            return bestLines;
        }

        int waits() {
            return bestWaits;
        }

        int minutes() {
            return bestMinutes;
        }

        int wayOf(int chapter) {
            return bestRow[chapter];
        }
    }

    /** GAINS of two who seem slow, and their RESTS. */
    private static final class Seeming {
        private static final int CASES = SLOWS * SLOWS;

        private final Company company;
        /** By SLOWS times the number of the first one, and that of the second. */
        private final int[] gainsA = new int[CASES];
        private final int[] gainsB = new int[CASES];
        private final int[] restCases = new int[CASES];
        private int restCount = 0;

        Seeming(Company company) {
            this.company = company;
        }

        int gainOf(int a, int b, int slowA, int slowB) {
            int joyOfOne = company.person(a).joy() * slowA;
            int sum = 0;
            for (int c = 0; c < company.chapters(); c++) {
                if (!company.isSkipped(c)) {
                    int ahead = company.minutes(b, c) + slowB - company.minutes(a, c) - slowA;
                    sum += joyOfOne - Math.max(0, ahead);
                }
            }
            return sum;
        }

        void findRests(int a, int b) {
            for (int i = 0; i < CASES; i++) {
                gainsA[i] = gainOf(a, b, i / SLOWS, i % SLOWS);
                gainsB[i] = gainOf(b, a, i % SLOWS, i / SLOWS);
            }
            restCount = 0;
            for (int i = 0; i < CASES; i++) {
                if (isRest(i / SLOWS, i % SLOWS)) {
                    restCases[restCount] = i;
                    restCount++;
                }
            }
        }

        private boolean isRest(int slowA, int slowB) {
            int here = SLOWS * slowA + slowB;
            for (int other = 0; other < SLOWS; other++) {
                if (gainsA[SLOWS * other + slowB] > gainsA[here] || gainsB[SLOWS * slowA + other] > gainsB[here]) {
                    return false;
                }
            }
            return true;
        }

        int restCount() {
            return restCount;
        }

        int restAt(int i) {
            return i >= 0 && i < restCount ? restCases[i] : NONE;
        }
    }

    /** PAIRS: who sits with whom. */
    private static final class Seating {
        private final Company company;
        /** By READERS times the lesser of two, and the greater one. */
        private final int[] waits = new int[READERS * READERS];
        /** By set; sets of as many as are not even have no meaning here. */
        private final int[] leastWaits = new int[ALL_READERS + 1];
        private final int[] partners = new int[READERS];
        private int minutes = 0;

        Seating(Company company) {
            this.company = company;
        }

        void seat(int readers) {
            for (int a = 0; a < READERS; a++) {
                for (int b = a + 1; b < READERS; b++) {
                    waits[READERS * a + b] = company.waitOfTwo(a, b);
                }
            }
            leastWaits[0] = 0;
            // A set hangs only on sets within it, which are lesser numbers.
            for (int part = 1; part <= readers; part++) {
                int a = leastOf(part);
                leastWaits[part] = waitWith(part, a, leastPartner(part, a));
            }
            minutes = leastWaits[readers];
            int left = readers;
            for (int a = 0; a < READERS; a++) {
                if (holds(left, a)) {
                    int b = leastPartner(left, a);
                    partners[a] = b;
                    partners[b] = a;
                    left = without(left, a, b);
                }
            }
        }

        /** With whom the least of a set sits, so that all of it WAIT least; oneself, if alone. */
        private int leastPartner(int readers, int a) {
            int partner = a;
            for (int b = a + 1; b < READERS; b++) {
                if (holds(readers, b) && (partner == a || waitWith(readers, a, b) < waitWith(readers, a, partner))) {
                    partner = b;
                }
            }
            return partner;
        }

        private static int leastOf(int readers) {
            int r = 0;
            while (r < READERS - 1 && !holds(readers, r)) {
                r++;
            }
            return r;
        }

        private int waitWith(int readers, int a, int b) {
            return waits[READERS * a + b] + leastWaits[without(readers, a, b)];
        }

        private static int without(int readers, int a, int b) {
            return readers & ~(1 << a) & ~(1 << b);
        }

        int minutes() {
            return minutes;
        }

        int partnerOf(int reader) {
            return partners[reader];
        }
    }

    /** TURNS, and what they tell of PACES. */
    private static final class Turns {
        private static final int MOST_TURNS = 8;

        private final Company company;
        private final int[] chapters = new int[MOST_TURNS];
        private final int[] sets = new int[MOST_TURNS];
        private final int[] minutes = new int[MOST_TURNS];
        private int size = 0;

        Turns(Company company) {
            this.company = company;
        }

        boolean append(int chapter, int readers, int length) {
            if (size >= MOST_TURNS) {
                return false;
            }
            chapters[size] = chapter;
            sets[size] = readers;
            minutes[size] = length;
            size++;
            return true;
        }

        void clear() {
            size = 0;
        }

        int size() {
            return size;
        }

        int countUnlike() {
            int n = 0;
            for (int i = 0; i < size; i++) {
                if (!isThere(i) || company.together(sets[i], chapters[i]) != minutes[i]) {
                    n++;
                }
            }
            return n;
        }

        int fittingPaces(int reader, int kind) {
            int bits = 0;
            for (int speed = 1; speed <= FASTEST; speed++) {
                if (fitsAll(reader, kind, speed)) {
                    bits |= 1 << (speed - 1);
                }
            }
            return bits;
        }

        private boolean fitsAll(int reader, int kind, int speed) {
            for (int i = 0; i < size; i++) {
                if (tellsOf(i, reader, kind)) {
                    int others = company.together(sets[i] & ~(1 << reader), chapters[i]);
                    int own = company.minutesAt(reader, chapters[i], speed);
                    if (Math.max(others, own) != minutes[i]) {
                        return false;
                    }
                }
            }
            return true;
        }

        private boolean isThere(int i) {
            return chapters[i] < company.chapters();
        }

        private boolean tellsOf(int i, int reader, int kind) {
            return isThere(i) && company.kindOf(chapters[i]) == kind && holds(sets[i], reader);
        }
    }

    /** Chances and means by MOODS, as exact FRACTIONS: the one that was last asked for. */
    private static final class Moods {
        private static final int QUARTERS = 4;
        private static final int MOST_OUTCOMES = 8;
        /** Eight CHAPTERS of 99 LINES at PACE 1, each LIKED and in a MOOD. */
        private static final int LONGEST = CHAPTERS * 99 * 2 * 2;

        private final Company company;
        /** Of ways in all (a power of 2, of 48 bits at most), how many end at a minute. */
        private final long[] ways = new long[LONGEST + 1];
        private final int[] times = new int[MOODY_READERS];
        private final int[] quarters = new int[MOODY_READERS];
        private final int[] lengths = new int[MOST_OUTCOMES];
        private final int[] shares = new int[MOST_OUTCOMES];
        private int outcomes = 0;
        private long above = 0;
        private long below = 1;

        Moods(Company company) {
            this.company = company;
        }

        void chanceBy(int readers, int minute) {
            int last = Math.min(minute, longestOf(readers));
            long all = 1;
            for (int m = 0; m <= last; m++) {
                ways[m] = 0;
            }
            ways[0] = 1;
            for (int c = 0; c < company.chapters(); c++) {
                if (!company.isSkipped(c)) {
                    findOutcomes(readers, c);
                    readOn(last);
                    all *= casesOf(readers);
                }
            }
            long in = 0;
            for (int m = 0; m <= last; m++) {
                in += ways[m];
            }
            reduce(in, all);
        }

        /** No run of MOODS takes longer; a short book then costs few minutes, whatever minute is asked. */
        private int longestOf(int readers) {
            int sum = 0;
            for (int c = 0; c < company.chapters(); c++) {
                if (!company.isSkipped(c)) {
                    sum += 2 * company.together(readers, c);
                }
            }
            return Math.min(sum, LONGEST);
        }

        void meanMinutes(int readers) {
            long sum = 0;
            for (int c = 0; c < company.chapters(); c++) {
                if (!company.isSkipped(c)) {
                    findOutcomes(readers, c);
                    for (int i = 0; i < outcomes; i++) {
                        sum += (long) lengths[i] * shares[i];
                    }
                }
            }
            reduce(sum, casesOf(readers));
        }

        private static long casesOf(int readers) {
            return 1L << (2 * Integer.bitCount(readers));
        }

        /** In how many cases a CHAPTER takes how long: each READER by the TIME, or by twice that. */
        private void findOutcomes(int readers, int chapter) {
            int members = 0;
            for (int r = 0; r < READERS && members < MOODY_READERS; r++) {
                if (holds(readers, r)) {
                    times[members] = company.minutes(r, chapter);
                    quarters[members] = company.person(r).mood();
                    members++;
                }
            }
            outcomes = 0;
            for (int slow = 0; slow < 1 << members; slow++) {
                int length = 0;
                int share = 1;
                for (int m = 0; m < members; m++) {
                    boolean twice = holds(slow, m);
                    length = Math.max(length, twice ? 2 * times[m] : times[m]);
                    share *= twice ? quarters[m] : QUARTERS - quarters[m];
                }
                addOutcome(length, share);
            }
        }

        private void addOutcome(int length, int share) {
            if (share == 0) {
                return;
            }
            for (int i = 0; i < outcomes; i++) {
                if (lengths[i] == length) {
                    shares[i] += share;
                    return;
                }
            }
            if (outcomes < MOST_OUTCOMES) {
                lengths[outcomes] = length;
                shares[outcomes] = share;
                outcomes++;
            }
        }

        /** From the last minute down: what a minute is made from lies before it and is still as it was. */
        private void readOn(int last) {
            for (int m = last; m >= 0; m--) {
                long sum = 0;
                for (int i = 0; i < outcomes; i++) {
                    if (lengths[i] <= m) {
                        sum += shares[i] * ways[m - lengths[i]];
                    }
                }
                ways[m] = sum;
            }
        }

        private void reduce(long up, long down) {
            long common = commonDivisor(up, down);
            above = common > 1 ? up / common : up;
            below = common > 1 ? down / common : down;
        }

        private static long commonDivisor(long x, long y) {
            long a = x;
            long b = y;
            for (int step = 0; step < 200 && b != 0; step++) {
                long rest = a % b;
                a = b;
                b = rest;
            }
            return a;
        }

        long above() {
            return above;
        }

        long below() {
            return below;
        }
    }

    /** A row of a FORM, or LOST. */
    private static final class Sheet {
        private static final int BYTES = 0;
        private static final int SHORTS = 1;

        private final int[] items = new int[MOST_ITEMS];
        private boolean lost = true;
        private int form = BYTES;
        private int size = 0;

        void renew(int newForm, int newSize) {
            lost = false;
            form = newForm;
            size = newSize;
            for (int i = 0; i < MOST_ITEMS; i++) {
                items[i] = 0;
            }
        }

        void drop() {
            lost = true;
            size = 0;
        }

        boolean isLost() {
            return lost;
        }

        int form() {
            return form;
        }

        int size() {
            return size;
        }

        /** Whether there are n items from a place on; size - n cannot overflow as n is not below 0. */
        boolean spans(int from, int n) {
            return from >= 0 && n >= 0 && from <= size - n;
        }

        int item(int i) {
            return items[i];
        }

        void put(int i, int v) {
            items[i] = narrow(v);
        }

        private int narrow(int v) {
            if (form == BYTES) {
                return (byte) v;
            }
            return form == SHORTS ? (short) v : v;
        }

        void takeFrom(Sheet other, int i, int j, int n) {
            System.arraycopy(other.items, i, items, j, n);
        }
    }
}
