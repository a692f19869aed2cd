import java.math.BigInteger;

/** The boundary cases of promises 22 to 31, sentence by sentence: what it is. */
public final class EdgesOfGuessTest {
    private static final int NONE = Bench.NONE;
    private static final int BAD = Bench.BAD;
    private static final int FULL = Bench.FULL;
    private static final int NOT_SO_MANY = Bench.NOT_SO_MANY;
    private static final int MAX = Bench.MAX;

    public static void main(String[] args) {
        noteNumbers();
        noteFull();
        noteOrder();
        markNumbers();
        markFull();
        markOrder();
        forgetNumbers();
        forgetCases();
        isNoneAndAll();
        isByEachNote();
        lookNone();
        lookCases();
        kindsNumbers();
        kindsNoneAndAll();
        kindsByEachMark();
        kindsBeyondTheLeast();
        askNumbers();
        askCases();
        twoK();
        twoNoneAndOne();
        twoAllRest();
        twoCases();
        luckNumbers();
        luckNothingToDraw();
        luckCases();
        luckLowestTerms();
        luckChangesTheFractionAlone();
        eveningsNumbers();
        eveningsAsByMoves();
        eveningsByHand();
        Bench.end(22, 31);
    }

    private static Bench.Making on(int[] order, int childKind, int... pieces) {
        return () -> {
            PaperDolls x = Bench.made(childKind, pieces);
            for (int i : order) {
                x.puts(i);
            }
            return x;
        };
    }

    // ---- promise 22

    private static PaperDolls sixNotes() {
        PaperDolls x = Bench.rich();
        for (int n = 2; n <= 6; n++) {
            x.note(0, 3, 1);
        }
        return x;
    }

    private static PaperDolls sixMarks() {
        PaperDolls x = Bench.rich();
        for (int n = 2; n <= 6; n++) {
            x.mark(4, 1, 0, 1);
        }
        return x;
    }

    private static void noteNumbers() {
        Bench.bounds(22, "COLOUR a", Bench::rich, (x, a) -> x.note(a, 3, 1), 0, 3);
        Bench.bounds(22, "COLOUR b", Bench::rich, (x, b) -> x.note(0, b, 0), 0, 3);
        Bench.bounds(22, "WENT 0, 1", Bench::rich, (x, went) -> x.note(1, 2, went), 0, 1);
        for (int a = 0; a <= 3; a++) {
            for (int b = 0; b <= 3; b++) {
                int one = a;
                int other = b;
                if (a <= b) {
                    Bench.due(22, "a not above b: " + a + ", " + b, new PaperDolls().note(a, b, 1), 1);
                } else {
                    Bench.refused(22, "a above b: " + a + ", " + b, Bench::rich, x -> x.note(one, other, 1), BAD);
                }
            }
        }
        Bench.due(22, "no PIECES are needed", new PaperDolls().note(3, 3, 0), 1);
    }

    private static void noteFull() {
        PaperDolls x = new PaperDolls();
        for (int n = 1; n <= 6; n++) {
            Bench.due(22, "how many there are", x.note(0, 0, 1), n);
            Bench.due(22, "how many there are", x.count(7), n);
        }
        Bench.refused(22, "FULL: 6", EdgesOfGuessTest::sixNotes, y -> y.note(0, 0, 1), FULL);
        Bench.refused(22, "FULL: 6", EdgesOfGuessTest::sixNotes, y -> y.note(3, 3, 0), FULL);
        Bench.refused(22, "BAD ahead of FULL", EdgesOfGuessTest::sixNotes, y -> y.note(1, 0, 1), BAD);
        Bench.refused(22, "BAD ahead of FULL", EdgesOfGuessTest::sixNotes, y -> y.note(0, 4, 1), BAD);
        Bench.refused(22, "BAD ahead of FULL", EdgesOfGuessTest::sixNotes, y -> y.note(-1, 0, 1), BAD);
        Bench.refused(22, "BAD ahead of FULL", EdgesOfGuessTest::sixNotes, y -> y.note(0, 0, 2), BAD);
        PaperDolls full = sixNotes();
        Bench.due(22, "MARKS are not FULL by that", full.mark(0, 1, 0, 1), 2);
        full.forget(0);
        Bench.due(22, "from 1 again", full.note(0, 0, 1), 1);
    }

    private static void noteOrder() {
        PaperDolls x = new PaperDolls();
        PaperDolls y = new PaperDolls();
        x.note(0, 1, 0);
        x.note(2, 3, 1);
        y.note(2, 3, 1);
        y.note(0, 1, 0);
        Bench.so(22, "NOTES as they come", x.digest() != y.digest());
        Bench.due(22, "NOTES alike are kept twice", x.note(2, 3, 1), 3);
        Bench.due(22, "nothing to undo by that", x.count(9), 0);
    }

    // ---- promise 23

    private static void markNumbers() {
        Bench.pieceNumber(23, (x, i) -> x.mark(i, 1, 0, 0));
        Bench.bounds(23, "PAPER p 1 .. 9", Bench::rich, (x, p) -> x.mark(0, p, 0, 0), 1, 9);
        Bench.bounds(23, "WORN n 0 .. 99", Bench::rich, (x, n) -> x.mark(0, 1, n, 0), 0, 99);
        Bench.bounds(23, "HELD by x -99 .. 40", Bench::rich, (x, held) -> x.mark(0, 1, 0, held), -99, 40);
        Bench.due(23, "all the least", Bench.rich().mark(0, 1, 0, -99), 2);
        Bench.due(23, "all the most", Bench.rich().mark(4, 9, 99, 40), 2);
    }

    private static void markFull() {
        PaperDolls x = Bench.eight();
        for (int n = 1; n <= 6; n++) {
            Bench.due(23, "how many there are", x.mark(n, 9, 0, 9), n);
            Bench.due(23, "how many there are", x.count(8), n);
        }
        Bench.refused(23, "FULL: 6", EdgesOfGuessTest::sixMarks, y -> y.mark(0, 1, 0, 0), FULL);
        Bench.refused(23, "FULL: 6", EdgesOfGuessTest::sixMarks, y -> y.mark(4, 9, 99, 40), FULL);
        Bench.refused(23, "BAD ahead of FULL", EdgesOfGuessTest::sixMarks, y -> y.mark(5, 1, 0, 0), BAD);
        Bench.refused(23, "BAD ahead of FULL", EdgesOfGuessTest::sixMarks, y -> y.mark(0, 10, 0, 0), BAD);
        Bench.refused(23, "BAD ahead of FULL", EdgesOfGuessTest::sixMarks, y -> y.mark(0, 1, 100, 0), BAD);
        Bench.refused(23, "BAD ahead of FULL", EdgesOfGuessTest::sixMarks, y -> y.mark(0, 1, 0, 41), BAD);
        PaperDolls full = sixMarks();
        Bench.due(23, "NOTES are not FULL by that", full.note(0, 0, 1), 2);
        full.forget(1);
        Bench.due(23, "from 1 again", full.mark(0, 1, 0, 1), 1);
    }

    private static void markOrder() {
        PaperDolls x = Bench.eight();
        PaperDolls y = Bench.eight();
        x.mark(0, 1, 2, 3);
        x.mark(1, 1, 2, 3);
        y.mark(1, 1, 2, 3);
        y.mark(0, 1, 2, 3);
        Bench.so(23, "MARKS as they come", x.digest() != y.digest());
        Bench.due(23, "MARKS alike are kept twice", x.mark(1, 1, 2, 3), 3);
        Bench.due(23, "nothing to undo by that", x.count(9), 0);
    }

    // ---- promise 24

    private static void forgetNumbers() {
        Bench.bounds(24, "NOTES 0, MARKS 1", Bench::rich, (x, what) -> x.forget(what), 0, 1);
        Bench.bounds(24, "NOTES 0, MARKS 1", PaperDolls::new, (x, what) -> x.forget(what), 0, 1);
    }

    private static void forgetCases() {
        Bench.answered(24, "no NOTES there were", Bench::eight, x -> x.forget(0), 0);
        Bench.answered(24, "no MARKS there were", Bench::eight, x -> x.forget(1), 0);
        PaperDolls x = sixNotes();
        Bench.due(24, "six NOTES there were", x.forget(0), 6);
        Bench.due(24, "no NOTES", x.count(7), 0);
        Bench.due(24, "all KINDS fit", x.is(), 63);
        Bench.due(24, "MARKS stay", x.count(8), 1);
        Bench.due(24, "of the boots, too: hat or boots", x.kinds(2), 8 + 16);
        Bench.due(24, "what may be undone stays", x.count(9), 6);
        Bench.due(24, "again", x.forget(0), 0);
        PaperDolls y = sixMarks();
        Bench.due(24, "six MARKS there were", y.forget(1), 6);
        Bench.due(24, "no MARKS", y.count(8), 0);
        Bench.due(24, "all KINDS fit", y.kinds(2), 63);
        Bench.due(24, "NOTES stay", y.count(7), 1);
        Bench.due(24, "plain, wintry, free", y.is(), 1 + 16 + 32);
        Bench.due(24, "again", y.forget(1), 0);
    }

    // ---- promise 25

    private static Bench.Making noted(int... notes) {
        return () -> {
            PaperDolls x = new PaperDolls();
            for (int n = 0; n + 2 < notes.length; n += 3) {
                x.note(notes[n], notes[n + 1], notes[n + 2]);
            }
            return x;
        };
    }

    private static void isNoneAndAll() {
        Bench.answered(25, "no NOTES: all KINDS", PaperDolls::new, x -> x.is(), 63);
        Bench.answered(25, "no NOTES: all KINDS, whatever THE CHILD is", () -> Bench.made(5), x -> x.is(), 63);
        Bench.answered(25, "against one another: no KIND", noted(0, 0, 1, 0, 0, 0), x -> x.is(), 0);
        Bench.answered(25, "no KIND", noted(0, 0, 0, 3, 3, 1), x -> x.is(), 0);
        Bench.answered(25, "the first of six", noted(0, 0, 0, 0, 2, 1, 0, 2, 1, 0, 2, 1, 0, 2, 1, 0, 2, 1), x -> x.is(), 4);
        Bench.answered(25, "the last of six", noted(0, 2, 1, 0, 2, 1, 0, 2, 1, 0, 2, 1, 0, 2, 1, 0, 0, 0), x -> x.is(), 4);
        Bench.answered(25, "six alike", noted(2, 3, 1, 2, 3, 1, 2, 3, 1, 2, 3, 1, 2, 3, 1, 2, 3, 1), x -> x.is(), 1);
    }

    private static void isByEachNote() {
        for (int a = 0; a <= 3; a++) {
            for (int b = a; b <= 3; b++) {
                int went = 0;
                for (int kind = 0; kind <= 5; kind++) {
                    went |= (Bench.GOES[kind][a] >> b & 1) << kind;
                }
                Bench.answered(25, "WENT: " + a + ", " + b, noted(a, b, 1), x -> x.is(), went);
                Bench.answered(25, "did not: " + a + ", " + b, noted(a, b, 0), x -> x.is(), 63 - went);
            }
        }
    }

    // ---- promise 26

    private static void lookNone() {
        Bench.answered(26, "no KIND: NONE", noted(0, 0, 1, 0, 0, 0), x -> x.look(), NONE);
        Bench.answered(26, "no KIND: NONE", noted(0, 0, 0, 3, 3, 1), x -> x.look(), NONE);
        // One kind alone: no look parts it, so the least.
        Bench.answered(26, "plain alone", noted(2, 3, 1), x -> x.look(), 0);
        Bench.answered(26, "strict alone", noted(3, 3, 1, 0, 1, 0, 0, 3, 0), x -> x.look(), 0);
        Bench.answered(26, "gaudy alone", noted(0, 0, 0), x -> x.look(), 0);
        Bench.answered(26, "pairs alone", noted(0, 1, 0, 1, 2, 1), x -> x.look(), 0);
        Bench.answered(26, "wintry alone", noted(0, 1, 1, 0, 2, 0, 3, 3, 0), x -> x.look(), 0);
        Bench.answered(26, "free alone", noted(0, 2, 1, 0, 0, 1), x -> x.look(), 0);
    }

    private static void lookCases() {
        Bench.answered(26, "all: 01 parts three and three", PaperDolls::new, x -> x.look(), 1);
        Bench.answered(26, "all but gaudy: 01 has three of five", noted(0, 0, 1), x -> x.look(), 1);
        Bench.answered(26, "gaudy, free: 00", noted(0, 2, 1), x -> x.look(), 0);
        Bench.answered(26, "strict, gaudy, pairs: 00", noted(0, 1, 0), x -> x.look(), 0);
        Bench.answered(26, "gaudy, wintry, free: 00", noted(3, 3, 0), x -> x.look(), 0);
        Bench.answered(26, "plain, strict, pairs: 01", noted(3, 3, 1), x -> x.look(), 1);
        Bench.answered(26, "plain, wintry, free: 02", noted(0, 1, 1), x -> x.look(), 2);
        Bench.answered(26, "wintry, free: 02", noted(0, 1, 1, 3, 3, 0), x -> x.look(), 2);
        Bench.answered(26, "strict, pairs: 03", noted(3, 3, 1, 0, 1, 0), x -> x.look(), 3);
        Bench.answered(26, "plain, wintry: 23, the most that LOOK answers", noted(0, 1, 1, 0, 2, 0), x -> x.look(), 23);
    }

    // ---- promise 27

    private static void kindsNumbers() {
        Bench.pieceNumber(27, (x, i) -> x.kinds(i));
    }

    private static void kindsNoneAndAll() {
        for (int n = 0; n < 8; n++) {
            int i = n;
            Bench.answered(27, "no MARKS: all KINDS, whatever it is", Bench::eight, x -> x.kinds(i), 63);
        }
        Bench.answered(27, "of the boots: hat or boots", Bench::rich, x -> x.kinds(2), 8 + 16);
        for (int n : new int[] {0, 1, 3, 4}) {
            Bench.answered(27, "no MARKS of this one", Bench::rich, x -> x.kinds(n), 63);
        }
        Bench.answered(27, "no KIND", marked(1, 9, 0, 40), x -> x.kinds(1), 0);
        Bench.answered(27, "no KIND", marked(1, 1, 0, -99), x -> x.kinds(1), 0);
        Bench.answered(27, "against one another", marked(1, 9, 0, 9, 1, 9, 0, 8), x -> x.kinds(1), 0);
        Bench.answered(27, "not against another one's", marked(1, 9, 0, 9, 0, 9, 0, 8), x -> x.kinds(1), 1);
        Bench.answered(27, "the last of six", marked(0, 9, 0, 9, 0, 9, 0, 9, 0, 9, 0, 9, 0, 9, 0, 9, 0, 9, 0, 9, 1, 9, 0, 16),
            x -> x.kinds(1), 32);
    }

    /** Two coats of paper 1 and 9, and these marks. */
    private static Bench.Making marked(int... marks) {
        return () -> {
            PaperDolls x = Bench.made(Bench.PLAIN, Bench.COAT, 0, 1, Bench.COAT, 0, 9);
            for (int n = 0; n + 3 < marks.length; n += 4) {
                x.mark(marks[n], marks[n + 1], marks[n + 2], marks[n + 3]);
            }
            return x;
        };
    }

    private static int holds(int kind, int p, int n) {
        int third = (n - n % 3) / 3;
        int[] by = {p - third, p - third - 1, p - third - 1, p - third + 2, p - third + 2 - n, p + p - third - third - 2};
        return by[kind];
    }

    private static void kindsByEachMark() {
        for (int p = 1; p <= 9; p++) {
            for (int n = 0; n <= 99; n++) {
                PaperDolls x = Bench.made(Bench.PLAIN, Bench.COAT, 0, 5);
                for (int kind = 0; kind <= 5; kind++) {
                    int held = holds(kind, p, n);
                    int alike = 0;
                    for (int other = 0; other <= 5; other++) {
                        alike |= holds(other, p, n) == held ? 1 << other : 0;
                    }
                    if (held >= -99) {
                        x.mark(0, p, n, held);
                        Bench.due(27, "by p " + p + ", n " + n + ", x " + held, x.kinds(0), alike);
                        x.forget(1);
                    }
                }
            }
        }
    }

    private static void kindsBeyondTheLeast() {
        // Boots of paper 1, WORN 77 HOLD by 3 - 25 - 77; a MARK says -99 at least.
        Bench.answered(27, "-99, the least", marked(0, 1, 77, -99), x -> x.kinds(0), 16);
        Bench.refused(27, "-100 is no MARK", () -> Bench.made(0, 0, 0, 1), x -> x.mark(0, 1, 78, -100), BAD);
        Bench.answered(27, "16, the most that one HOLDS by", marked(0, 9, 0, 16), x -> x.kinds(0), 32);
        Bench.answered(27, "-66, a suit of paper 1, WORN 99", marked(0, 1, 99, -66), x -> x.kinds(0), 32);
    }

    // ---- promise 28

    private static void askNumbers() {
        Bench.pieceNumber(28, (x, i) -> x.ask(i));
    }

    private static void askCases() {
        Bench.answered(28, "no KIND: NONE", marked(1, 9, 0, 9, 1, 9, 0, 8), x -> x.ask(1), NONE);
        Bench.answered(28, "no KIND of another one", marked(1, 9, 0, 9, 1, 9, 0, 8), x -> x.ask(0), 4);
        // By the kinds that fit: the mark that leaves them, and the answer for paper 1 .. 9.
        int[][] marks = {{}, {1, 0, 1}, {1, 1, 3}, {1, 1, 2}, {1, 3, -2}, {1, 2, 1}, {2, 0, 2}, {1, 4, -1}, {1, 0, 3},
            {4, 1, 6}, {1, 4, -2}, {2, 2, 2}, {1, 3, -1}, {1, 0, 0}, {4, 0, 6}, {2, 3, 0}};
        int[] fitting = {63, 1, 8, 16, 32, 1 + 16, 1 + 32, 2 + 4, 8 + 16, 8 + 32, 16 + 32, 1 + 16 + 32, 2 + 4 + 16,
            2 + 4 + 32, 8 + 16 + 32, 2 + 4 + 16 + 32};
        int[][] due = {{4, 0, 0, 1, 0, 0, 0, 0, 0}, {0, 0, 0, 0, 0, 0, 0, 0, 0}, {0, 0, 0, 0, 0, 0, 0, 0, 0},
            {0, 0, 0, 0, 0, 0, 0, 0, 0}, {0, 0, 0, 0, 0, 0, 0, 0, 0}, {0, 0, 0, 0, 0, 0, 0, 0, 0},
            {0, 3, 0, 0, 0, 0, 0, 0, 0}, {0, 0, 0, 0, 0, 0, 0, 0, 0}, {1, 1, 1, 1, 1, 1, 1, 1, 1},
            {0, 0, 0, 3, 0, 0, 0, 0, 0}, {0, 0, 0, 1, 0, 0, 0, 0, 0}, {0, 4, 0, 1, 0, 0, 0, 0, 0},
            {0, 0, 0, 0, 0, 0, 0, 0, 0}, {3, 0, 0, 0, 0, 0, 0, 0, 0}, {1, 1, 2, 3, 1, 1, 1, 1, 1},
            {4, 0, 0, 0, 0, 0, 0, 0, 0}};
        for (int n = 0; n < marks.length; n++) {
            int[] mark = marks[n];
            for (int p = 1; p <= 9; p++) {
                int paper = p;
                Bench.Making making = () -> {
                    PaperDolls x = Bench.made(Bench.PLAIN, Bench.SHIRT, 0, paper);
                    if (mark.length == 3) {
                        x.mark(0, mark[0], mark[1], mark[2]);
                    }
                    return x;
                };
                Bench.due(28, "the KINDS that fit", making.make().kinds(0), fitting[n]);
                Bench.answered(28, "KINDS " + fitting[n] + ", PAPER " + p, making, x -> x.ask(0), due[n][p - 1]);
            }
        }
        Bench.due(28, "WORN does not matter", Bench.wear(Bench.made(0, 3, 0, 1), 0, 9).ask(0), 4);
    }

    // ---- promise 29

    private static void twoK() {
        Bench.fromHowMany(29, PaperDolls::new, (x, k) -> x.two(k));
        Bench.fromHowMany(29, Bench::rich, (x, k) -> x.two(k));
        Bench.fromHowMany(29, Bench::eightOn, (x, k) -> x.two(k));
    }

    /** How many, each, and not so many. */
    private static void two(String sentence, Bench.Making making, int... pairs) {
        Bench.answered(29, sentence + ": how many", making, x -> x.two(-1), pairs.length);
        for (int n = 0; n < pairs.length; n++) {
            int k = n;
            Bench.answered(29, sentence + ": the k-th " + k, making, x -> x.two(k), pairs[k]);
        }
        Bench.answered(29, sentence + ": not so many", making, x -> x.two(pairs.length), NOT_SO_MANY);
        Bench.answered(29, sentence + ": not so many", making, x -> x.two(MAX), NOT_SO_MANY);
    }

    private static void twoNoneAndOne() {
        two("no PIECES", PaperDolls::new);
        two("all are ON", Bench::eightOn);
        two("one that is not ON has itself alone", () -> Bench.made(0, 0, 0, 9), 0);
        two("the last one that is not ON", on(new int[] {0, 1, 2, 3, 4, 5, 6}, 0, 0, 0, 9, 1, 0, 9, 2, 0, 9, 3, 0, 9,
            4, 0, 9, 5, 0, 9, 0, 0, 9, 3, 0, 9), 77);
        two("of five two are not ON", Bench::rich, 34, 43);
    }

    private static void twoAllRest() {
        Bench.Making coats = () -> Bench.made(0, 1, 0, 1, 1, 0, 1, 1, 0, 1, 1, 0, 1, 1, 0, 1, 1, 0, 1, 1, 0, 1, 1, 0, 1);
        int[] pairs = new int[56];
        int k = 0;
        for (int i = 0; i < 8; i++) {
            for (int j = 0; j < 8; j++) {
                if (i != j) {
                    pairs[k] = 10 * i + j;
                    k++;
                }
            }
        }
        two("eight that could not be PUT ON: 0 each, the same: -2", coats, pairs);
    }

    private static void twoCases() {
        two("eight: cloak and suit", Bench::eight, 25, 52);
        two("hats and boots, like ones rest", () -> Bench.made(0, 3, 0, 9, 3, 0, 9, 4, 0, 9, 4, 0, 9),
            2, 3, 12, 13, 20, 21, 30, 31);
        two("two that do not GO: -1 each, the same: -2", () -> Bench.made(1, 0, 0, 9, 3, 1, 9), 1, 10);
        // The coat, of paper 1, could not be put on: 0, more than -1; beside it the hat gets 2, the shirt 1.
        two("0 is more than -1", () -> Bench.made(1, 0, 0, 9, 3, 1, 9, 1, 0, 1), 12, 21);
        two("gaudy: two alike", () -> Bench.made(2, 0, 0, 9, 3, 0, 9), 1, 10);
        // The hat is ON, of colour 0: boots of colour 3 could not be put on now; the shirt could.
        two("could not be PUT ON now", on(new int[] {0}, 0, 3, 0, 9, 4, 3, 9, 0, 0, 9, 0, 1, 9), 23, 32);
        // Shirt and boots get 2 beside one another; beside the suit, that could not be put on, 1: it covers their spots.
        two("more beside one that COVERS another SPOT", () -> Bench.made(0, 0, 0, 9, 5, 0, 1, 4, 0, 1), 2, 20);
    }

    // ---- promise 30

    private static void luckNumbers() {
        Bench.bounds(30, "n 0 .. 4", Bench::rich, (x, n) -> x.luck(n), 0, 4);
        Bench.bounds(30, "n 0 .. 4", PaperDolls::new, (x, n) -> x.luck(n), 0, 4);
        Bench.bounds(30, "n 0 .. 4", Bench::eight, (x, n) -> x.luck(n), 0, 4);
    }

    private static void luck(String sentence, PaperDolls x, int n, int above, int below) {
        Bench.due(30, sentence + ", n " + n, x.luck(n), 1);
        Bench.due(30, sentence + ", n " + n + ", above", x.part(0), above);
        Bench.due(30, sentence + ", n " + n + ", below", x.part(1), below);
    }

    private static void luckNothingToDraw() {
        for (int n = 0; n <= 4; n++) {
            luck("no PIECES", new PaperDolls(), n, 0, 1);
            luck("all are ON, DRESSED", Bench.eightOn(), n, 1, 1);
            luck("all are ON, not DRESSED", on(new int[] {0}, 0, 0, 0, 9).make(), n, 0, 1);
            luck("DRESSED, two are not ON", Bench.rich(), n, 1, 1);
        }
        PaperDolls x = on(new int[] {0}, 0, 2, 0, 9, 4, 0, 9).make();
        luck("one alone, none drawn", x, 0, 0, 1);
        for (int n = 1; n <= 4; n++) {
            luck("one alone: fewer, if there are fewer", x, n, 1, 1);
        }
        PaperDolls y = Bench.made(0, 1, 0, 9, 3, 0, 9, 4, 0, 9);
        luck("of three two", y, 2, 0, 1);
        luck("of three three", y, 3, 1, 1);
        luck("of three four: fewer, if there are fewer", y, 4, 1, 1);
    }

    private static void luckCases() {
        // The cloak is ON; three boots and four shirts are not.
        PaperDolls x = on(new int[] {0}, 0, 2, 0, 9, 4, 0, 9, 4, 0, 9, 4, 0, 9, 0, 0, 9, 0, 0, 9, 0, 0, 9, 0, 0, 9).make();
        luck("of seven none", x, 0, 0, 1);
        luck("of seven one", x, 1, 3, 7);
        luck("of seven two", x, 2, 5, 7);
        luck("of seven three", x, 3, 31, 35);
        luck("of seven four", x, 4, 34, 35);
        // A strict child: of eight the four of colour 0 alone.
        PaperDolls y = Bench.made(1, 1, 0, 9, 3, 0, 9, 4, 0, 9, 0, 0, 9, 1, 1, 9, 3, 1, 9, 4, 2, 9, 0, 2, 9);
        luck("of eight four", y, 4, 1, 70);
        luck("of eight three", y, 3, 1, 56);
        luck("of eight two", y, 2, 0, 1);
        // A coat that could not be put on.
        PaperDolls z = on(new int[] {0}, 0, 2, 0, 9, 4, 0, 9, 1, 0, 1).make();
        luck("one that could not be", z, 1, 1, 2);
        luck("one that could not be", z, 2, 0, 1);
        // Boots of 0 and of 2 do not go together, though each does with the cloak.
        PaperDolls w = on(new int[] {0}, 0, 2, 1, 9, 4, 0, 9, 4, 2, 9).make();
        luck("two that do not GO", w, 1, 1, 1);
        luck("two that do not GO", w, 2, 0, 1);
        // Dressed already; a shirt that does not go spoils it.
        PaperDolls v = on(new int[] {0, 1}, 0, 2, 0, 9, 4, 0, 9, 0, 3, 9).make();
        luck("DRESSED, none drawn", v, 0, 1, 1);
        luck("DRESSED, one that could not be", v, 1, 0, 1);
    }

    private static void luckLowestTerms() {
        PaperDolls x = on(new int[] {0}, 0, 2, 0, 9, 4, 0, 9, 4, 0, 9, 0, 0, 9, 0, 0, 9).make();
        luck("two of four", x, 1, 1, 2);
        luck("five of six", x, 2, 5, 6);
        luck("four of four", x, 3, 1, 1);
        luck("one of one", x, 4, 1, 1);
        luck("none of one", x, 0, 0, 1);
        // Two cloaks, three boots, three shirts.
        luck("six of 28", Bench.made(0, 2, 0, 9, 2, 0, 9, 4, 0, 9, 4, 0, 9, 4, 0, 9, 0, 0, 9, 0, 0, 9, 0, 0, 9), 2, 3, 14);
        luck("none of 56", Bench.made(0, 0, 0, 9, 0, 0, 9, 0, 0, 9, 0, 0, 9, 0, 0, 9, 0, 0, 9, 0, 0, 9, 0, 0, 9), 3, 0, 1);
    }

    private static void luckChangesTheFractionAlone() {
        PaperDolls x = Bench.rich();
        Bench.due(30, "1", x.luck(2), 1);
        int[] counts = {5, 3, 6, 15, 1, 3, 0, 1, 1, 6, Bench.RICH_TEXT.length()};
        for (int what = 0; what <= 10; what++) {
            Bench.due(30, "all else stays: count " + what, x.count(what), counts[what]);
        }
        Bench.due(30, "the last MOVE is no PUTTING ON by it", x.undo(), 5);
        Bench.due(30, "luck(5)", x.luck(5), BAD);
        Bench.due(30, "THE FRACTION stays", x.part(0) * 10 + x.part(1), 11);
        PaperDolls y = Bench.rich();
        y.luck(4);
        PaperDolls twin = Bench.rich();
        twin.luck(0);
        Bench.so(30, "the same but for THE FRACTION, which is 1 by 1 in both", Bench.shown(y).equals(Bench.shown(twin)));
    }

    // ---- promise 31

    private static void eveningsNumbers() {
        Bench.bounds(31, "SEED 0 .. 999999", Bench::rich, (x, seed) -> x.evenings(seed, 60), 0, 999999);
        Bench.bounds(31, "n 0 .. 60", Bench::rich, (x, n) -> x.evenings(999999, n), 0, 60);
        Bench.bounds(31, "SEED 0 .. 999999", PaperDolls::new, (x, seed) -> x.evenings(seed, 0), 0, 999999);
        Bench.bounds(31, "n 0 .. 60", PaperDolls::new, (x, n) -> x.evenings(0, n), 0, 60);
        Bench.refused(31, "both are not as told", Bench::rich, x -> x.evenings(-1, 61), BAD);
    }

    /** The same by moves: how often she is dressed. */
    private static int played(PaperDolls x, int seed, int n) {
        BigInteger number = BigInteger.valueOf(seed);
        int dressed = 0;
        for (int evening = 0; evening < n; evening++) {
            number = number.multiply(BigInteger.valueOf(1103515245)).add(BigInteger.valueOf(12345))
                .mod(BigInteger.ONE.shiftLeft(31));
            int i = number.shiftRight(16).mod(BigInteger.valueOf(8)).intValue();
            if (i < x.count(0) && x.puts(i) < 0 && x.takes(i) < 0) {
                x.mends(i);
            }
            dressed += x.count(4);
        }
        return dressed;
    }

    private static PaperDolls paperOne() {
        return Bench.made(0, 4, 0, 1, 2, 0, 2, 3, 0, 1, 5, 0, 2, 0, 0, 1, 4, 1, 1, 1, 0, 1, 2, 1, 2);
    }

    private static void eveningsAsByMoves() {
        Bench.Making[] makings = {PaperDolls::new, Bench::rich, Bench::eight, Bench::eightOn, EdgesOfGuessTest::paperOne,
            () -> Bench.made(2, 2, 0, 9, 4, 2, 9, 5, 1, 2, 3, 3, 9), () -> Bench.made(5, 5, 0, 9, 3, 0, 9, 0, 1, 9)};
        int[] seeds = {0, 1, 2, 5, 7, 12345, 65535, 65536, 500000, 999998, 999999};
        for (Bench.Making making : makings) {
            for (int seed : seeds) {
                for (int n : new int[] {0, 1, 2, 7, 59, 60}) {
                    Bench.answered(31, "SEED " + seed + ", n " + n, making, x -> x.evenings(seed, n),
                        played(making.make(), seed, n));
                }
            }
        }
    }

    private static void eveningsByHand() {
        Bench.answered(31, "no evenings", Bench::rich, x -> x.evenings(0, 0), 0);
        Bench.answered(31, "no evenings", Bench::rich, x -> x.evenings(999999, 0), 0);
        Bench.answered(31, "no PIECES", PaperDolls::new, x -> x.evenings(999999, 60), 0);
        // Seed 5: 5 times 1103515245 and 12345 is 5517588570, by 2147483648 1222621274 is left; by 65536 18655, by 8 7.
        Bench.answered(31, "PIECE 7 is not there", Bench::rich, x -> x.evenings(5, 1), 1);
        // Seed 0: 12345, PIECE 0, then 4 and 4; the coat is taken off, the shirt put on and taken off.
        Bench.answered(31, "the coat is taken off", Bench::rich, x -> x.evenings(0, 1), 0);
        Bench.answered(31, "the coat is taken off", Bench::rich, x -> x.evenings(0, 3), 0);
    }
}
