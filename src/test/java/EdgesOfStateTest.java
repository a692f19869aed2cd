import java.math.BigInteger;

/** The boundary cases of promises 32 to 37, sentence by sentence: what there is. */
public final class EdgesOfStateTest {
    private static final int NONE = Bench.NONE;
    private static final int BAD = Bench.BAD;
    private static final int NO = Bench.NO;
    private static final int FULL = Bench.FULL;
    private static final int MIN = Bench.MIN;
    private static final int MAX = Bench.MAX;

    public static void main(String[] args) {
        partNumbers();
        partAtFirst();
        partStays();
        imageNumbers();
        imageChangesNothing();
        imageKeepsAll();
        imageKeepsWhatMayBeUndone();
        imageIsNotTouchedBehind();
        imagesAreApart();
        imageOfNothing();
        fromNumbers();
        fromNoneKept();
        fromLeavesTheRest();
        fromAgain();
        statusNumbers();
        statusCountsEach();
        statusCountsNoAnswers();
        statusOfMany();
        countNumbers();
        countLeast();
        countMost();
        countSpots();
        countWorn();
        digestLeast();
        digestMost();
        digestOrder();
        digestLeavesOut();
        Bench.end(32, 37);
    }

    // ---- promise 32

    private static void partNumbers() {
        Bench.bounds(32, "above 0, below 1", Bench::rich, (x, what) -> x.part(what), 0, 1);
        Bench.bounds(32, "above 0, below 1", PaperDolls::new, (x, what) -> x.part(what), 0, 1);
    }

    private static void partAtFirst() {
        Bench.answered(32, "THE FRACTION is 0 by 1 at first", PaperDolls::new, x -> x.part(0), 0);
        Bench.answered(32, "THE FRACTION is 0 by 1 at first", PaperDolls::new, x -> x.part(1), 1);
        Bench.answered(32, "2 by 3", Bench::rich, x -> x.part(0), 2);
        Bench.answered(32, "2 by 3", Bench::rich, x -> x.part(1), 3);
    }

    private static void partStays() {
        Bench.Call[] calls = {x -> x.doll(5), x -> x.child(5), x -> x.piece(0, 0, 1), x -> x.read(), x -> x.clear(),
            x -> x.undo(), x -> x.from(0), x -> x.image(1), x -> x.luck(5), x -> x.luck(-1), x -> x.evenings(0, 60),
            x -> x.puts(3), x -> x.takes(0), x -> x.forget(0)};
        for (int n = 0; n < calls.length; n++) {
            PaperDolls x = Bench.rich();
            calls[n].on(x);
            Bench.due(32, "THE FRACTION stays, call " + n, x.part(0), 2);
            Bench.due(32, "THE FRACTION stays, call " + n, x.part(1), 3);
        }
        PaperDolls y = Bench.rich();
        y.luck(0);
        Bench.due(32, "another LUCK", y.part(0) * 10 + y.part(1), 11);
        y.doll(0);
        y.luck(4);
        Bench.due(32, "0 by 1 again", y.part(0) * 10 + y.part(1), 1);
    }

    // ---- promise 33

    private static void imageNumbers() {
        Bench.bounds(33, "IMAGES 0, 1", Bench::rich, (x, i) -> x.image(i), 0, 1);
        Bench.bounds(33, "IMAGES 0, 1", PaperDolls::new, (x, i) -> x.image(i), 0, 1);
    }

    private static void imageChangesNothing() {
        for (int i = 0; i <= 1; i++) {
            PaperDolls x = Bench.rich();
            long was = x.digest();
            Bench.due(33, "an IMAGE is kept: 1", x.image(i), 1);
            Bench.due(33, "nothing else is changed", x.digest(), was);
            Bench.due(33, "no call was refused by it", x.status(0) + x.status(1) + x.status(2), 2);
            Bench.due(33, "what may be undone stays", x.undo(), 5);
        }
    }

    /** The object by many other calls. */
    private static void stir(PaperDolls x) {
        x.doll(3);
        for (int i = 0; i < 8; i++) {
            x.piece(i % 6, 3, 9);
        }
        for (int n = 0; n < 6; n++) {
            x.note(1, 1, 0);
            x.mark(n, 1, 1, 1);
        }
        for (int i = 0; i < 8; i++) {
            x.puts(i);
        }
        for (int i = 0; i < 4; i++) {
            x.mends(i);
        }
    }

    private static void imageKeepsAll() {
        for (int i = 0; i <= 1; i++) {
            PaperDolls x = Bench.rich();
            x.image(i);
            long was = x.digest();
            stir(x);
            Bench.due(33, "it goes on from it", x.from(i), 1);
            int[] counts = {5, 3, 6, 15, 1, 3, 0, 1, 1, 6, Bench.RICH_TEXT.length()};
            for (int what = 0; what <= 10; what++) {
                Bench.due(33, "keeps all: count " + what, x.count(what), counts[what]);
            }
            Bench.due(33, "keeps all: PIECES, ON, NOTES, MARKS", x.digest(), was);
            Bench.due(33, "keeps NOTES: plain, wintry, free", x.is(), 1 + 16 + 32);
            Bench.due(33, "keeps MARKS: hat or boots", x.kinds(2), 8 + 16);
        }
        PaperDolls y = Bench.eightOn();
        y.child(5);
        for (int n = 0; n < 6; n++) {
            y.note(2, 3, n % 2);
            y.mark(7, 9, 99, -99 + n);
        }
        y.image(1);
        long was = y.digest();
        stir(y);
        y.from(1);
        Bench.due(33, "the most of all", y.digest(), was);
    }

    private static void imageKeepsWhatMayBeUndone() {
        PaperDolls x = Bench.eightOn();
        x.takes(7);
        x.mends(0);
        x.image(0);
        stir(x);
        x.from(0);
        Bench.due(33, "what may be undone they keep: 8", x.count(9), 8);
        for (int n = 1; n <= 8; n++) {
            Bench.due(33, "undone one by one", x.undo(), 10 - n);
        }
        Bench.due(33, "and no more", x.undo(), NO);
        Bench.due(33, "as ahead of the third MOVE", x.count(1), 2);
        x.from(0);
        Bench.due(33, "and again from it", x.undo(), 9);
        Bench.due(33, "not MENDED yet", x.of(0, 3), 1);
        PaperDolls y = Bench.rich();
        y.child(0);
        y.image(0);
        y.puts(4);
        y.from(0);
        Bench.due(33, "none that may be undone, too", y.undo(), NO);
    }

    private static void imageIsNotTouchedBehind() {
        PaperDolls x = Bench.eightOn();
        x.image(0);
        long was = x.digest();
        for (int round = 0; round < 3; round++) {
            for (int n = 0; n < 8; n++) {
                x.undo();
            }
            x.puts(3);
            x.puts(2);
            x.takes(2);
            x.mends(2);
            x.note(0, 0, 1);
            x.mark(0, 1, 0, 1);
            x.child(4);
            x.from(0);
            Bench.due(33, "what comes behind does not touch it", x.digest(), was);
            Bench.due(33, "nor what may be undone there", x.undo(), 7);
            x.from(0);
        }
    }

    private static void imagesAreApart() {
        PaperDolls x = Bench.made(1, 0, 1, 2);
        x.image(0);
        x.doll(4);
        x.image(1);
        x.doll(5);
        x.piece(0, 0, 9);
        x.from(0);
        Bench.due(33, "IMAGE 0", x.count(6) * 10 + x.count(0), 11);
        x.from(1);
        Bench.due(33, "IMAGE 1", x.count(6) * 10 + x.count(0), 40);
        x.image(0);
        x.doll(2);
        x.from(0);
        Bench.due(33, "another in its place", x.count(6) * 10 + x.count(0), 40);
        x.doll(2);
        x.image(1);
        x.from(0);
        Bench.due(33, "the other one stays", x.count(6), 4);
    }

    private static void imageOfNothing() {
        PaperDolls x = new PaperDolls();
        Bench.due(33, "of a new object", x.image(0), 1);
        stir(x);
        Bench.due(33, "it goes on from it", x.from(0), 1);
        for (int what = 0; what <= 9; what++) {
            Bench.due(33, "nothing: count " + what, x.count(what), 0);
        }
        Bench.due(33, "no PIECE", x.of(0, 0), BAD);
        Bench.due(33, "a PIECE is 0", x.piece(0, 0, 9), 0);
        Bench.due(33, "not WORN", x.of(0, 3), 0);
        Bench.due(33, "not ON", x.of(0, 4), NONE);
    }

    // ---- promise 34

    private static PaperDolls bothKept() {
        PaperDolls x = Bench.rich();
        x.image(1);
        return x;
    }

    private static void fromNumbers() {
        Bench.bounds(34, "IMAGES 0, 1", EdgesOfStateTest::bothKept, (x, i) -> x.from(i), 0, 1);
        for (int i : new int[] {-1, 2, MIN, MAX}) {
            Bench.refused(34, "BAD ahead of NO", PaperDolls::new, x -> x.from(i), BAD);
        }
    }

    private static void fromNoneKept() {
        Bench.refused(34, "NO: none was kept", PaperDolls::new, x -> x.from(0), NO);
        Bench.refused(34, "NO: none was kept", PaperDolls::new, x -> x.from(1), NO);
        Bench.refused(34, "NO: the other one was kept", Bench::rich, x -> x.from(1), NO);
        Bench.refused(34, "NO: the other one was kept", () -> {
            PaperDolls x = Bench.eightOn();
            x.image(1);
            return x;
        }, x -> x.from(0), NO);
        Bench.refused(34, "NO: a refused one is not kept", () -> {
            PaperDolls x = new PaperDolls();
            x.image(2);
            x.image(-1);
            return x;
        }, x -> x.from(1), NO);
    }

    private static void fromLeavesTheRest() {
        PaperDolls x = Bench.rich();
        Bench.typed(x, "doll 5;");
        x.luck(0);
        Bench.due(34, "from 0", x.from(0), 1);
        Bench.due(34, "THE TEXT stays", x.count(10), 7);
        Bench.due(34, "THE FRACTION stays", x.part(0) * 10 + x.part(1), 11);
        Bench.due(34, "BAD stays", x.status(0), 1);
        Bench.due(34, "NO stays", x.status(1), 1);
        Bench.due(34, "FULL stays", x.status(2), 0);
        Bench.due(34, "MOVES as then", x.count(2), 4);
        Bench.due(34, "a MOVE behind it", x.puts(2), 2);
        Bench.due(34, "it may be undone", x.undo(), 4);
        Bench.due(34, "those of then, too", x.undo(), 3);
        Bench.due(34, "THE TEXT is read as it stands", x.read(), 1);
        Bench.due(34, "IMAGE 1 is not kept by it", x.from(1), NO);
    }

    private static void fromAgain() {
        PaperDolls x = Bench.rich();
        x.from(0);
        long was = x.digest();
        x.puts(0);
        Bench.due(34, "the IMAGE stays", x.from(0), 1);
        Bench.due(34, "as it was", x.digest(), was);
        Bench.due(34, "twice", x.from(0), 1);
        Bench.due(34, "as it was", x.digest(), was);
        x.image(1);
        x.from(1);
        Bench.due(34, "an IMAGE of an IMAGE", x.digest(), was);
    }

    // ---- promise 35

    private static void statusNumbers() {
        for (int what : new int[] {-1, 3, 4, 256, MIN, MAX}) {
            PaperDolls x = Bench.rich();
            long was = x.digest();
            Bench.due(35, "-1: another what: " + what, x.status(what), -1);
            Bench.due(35, "it counts as BAD", x.status(0), 2);
            Bench.due(35, "not as NO", x.status(1), 1);
            Bench.due(35, "not as FULL", x.status(2), 0);
            Bench.due(35, "all stays", x.digest(), was);
        }
        for (int what = 0; what <= 2; what++) {
            int asked = what;
            Bench.answered(35, "0 at first", PaperDolls::new, x -> x.status(asked), 0);
        }
        Bench.answered(35, "BAD", Bench::rich, x -> x.status(0), 1);
        Bench.answered(35, "NO", Bench::rich, x -> x.status(1), 1);
        Bench.answered(35, "FULL", Bench::rich, x -> x.status(2), 0);
    }

    private static void statusCountsEach() {
        PaperDolls x = Bench.eight();
        Bench.Call[] bad = {y -> y.doll(6), y -> y.child(6), y -> y.piece(6, 0, 1), y -> y.type(128), y -> y.puts(8),
            y -> y.takes(8), y -> y.mends(8), y -> y.of(8, 0), y -> y.of(0, 7), y -> y.seen(4), y -> y.going(8),
            y -> y.outfits(-2), y -> y.lean(2), y -> y.few(-2), y -> y.note(1, 0, 0), y -> y.mark(8, 1, 0, 0),
            y -> y.forget(2), y -> y.kinds(8), y -> y.ask(8), y -> y.two(-2), y -> y.luck(5), y -> y.evenings(0, 61),
            y -> y.part(2), y -> y.image(2), y -> y.from(2), y -> y.count(11), y -> y.status(3)};
        for (int n = 0; n < bad.length; n++) {
            bad[n].on(x);
            Bench.due(35, "refused as BAD, " + n, x.status(0), n + 1);
        }
        Bench.Call[] no = {y -> y.undo(), y -> y.from(0), y -> y.from(1), y -> y.takes(0), y -> y.mends(0)};
        for (int n = 0; n < no.length; n++) {
            no[n].on(x);
            Bench.due(35, "refused as NO, " + n, x.status(1), n + 1);
        }
        x.puts(0);
        x.puts(0);
        Bench.due(35, "refused as NO, puts", x.status(1), no.length + 1);
        for (int n = 0; n < 7; n++) {
            x.note(0, 0, 1);
            x.mark(0, 1, 0, 1);
        }
        Bench.typed(x, Bench.times(151, " "));
        x.piece(0, 0, 1);
        Bench.due(35, "refused as FULL: note, mark, type, piece", x.status(2), 4);
        Bench.due(35, "BAD", x.status(0), bad.length);
        Bench.due(35, "NO", x.status(1), no.length + 1);
    }

    private static void statusCountsNoAnswers() {
        PaperDolls x = new PaperDolls();
        x.outfits(0);
        x.two(0);
        x.few(-1);
        x.few(0);
        x.lean(0);
        x.lean(1);
        x.seen(0);
        x.read();
        x.note(0, 0, 0);
        x.note(0, 0, 1);
        x.look();
        x.piece(5, 0, 1);
        x.of(0, 4);
        x.mark(0, 9, 0, 40);
        x.ask(0);
        x.doll(0);
        x.piece(2, 0, 9);
        x.piece(4, 0, 9);
        x.few(2);
        for (int what = 0; what <= 2; what++) {
            Bench.due(35, "-5, -6, NONE and a FAULT are no refusals: " + what, x.status(what), 0);
        }
    }

    private static void statusOfMany() {
        PaperDolls x = new PaperDolls();
        for (int n = 0; n < 511; n++) {
            x.puts(n);
        }
        Bench.due(35, "511 refused as BAD", x.status(0), 511);
        PaperDolls y = new PaperDolls();
        for (int n = 0; n < 511; n++) {
            y.undo();
        }
        Bench.due(35, "511 refused as NO", y.status(1), 511);
        PaperDolls z = Bench.typed(new PaperDolls(), Bench.times(150, ";"));
        for (int n = 0; n < 360; n++) {
            z.type(';');
        }
        Bench.due(35, "360 refused as FULL", z.status(2), 360);
    }

    // ---- promise 36

    private static void countNumbers() {
        Bench.bounds(36, "what 0 .. 10", Bench::rich, (x, what) -> x.count(what), 0, 10);
        Bench.bounds(36, "what 0 .. 10", PaperDolls::new, (x, what) -> x.count(what), 0, 10);
    }

    private static void countLeast() {
        for (int what = 0; what <= 10; what++) {
            int asked = what;
            Bench.answered(36, "the least: count " + what, PaperDolls::new, x -> x.count(asked), 0);
        }
    }

    /** As much of each as there can be. */
    private static PaperDolls most() {
        PaperDolls x = Bench.typed(new PaperDolls(), Bench.times(150, ";"));
        x.doll(5);
        for (int i = 0; i < 8; i++) {
            x.piece(i % 6, 0, 9);
        }
        for (int i = 0; i < 8; i++) {
            x.puts(i);
        }
        for (int n = 0; n < 6; n++) {
            x.note(0, 3, 1);
            x.mark(n, 9, 99, 40);
        }
        return x;
    }

    private static void countMost() {
        int[] due = {8, 8, 8, 15, 1, 8, 5, 6, 6, 8, 150};
        for (int what = 0; what <= 10; what++) {
            int asked = what;
            Bench.answered(36, "the most: count " + what, EdgesOfStateTest::most, x -> x.count(asked), due[what]);
        }
        PaperDolls x = most();
        Bench.due(36, "a 9th PIECE", x.piece(0, 0, 1), FULL);
        Bench.due(36, "a 7th NOTE", x.note(0, 0, 1), FULL);
        Bench.due(36, "a 7th MARK", x.mark(0, 1, 0, 0), FULL);
        Bench.due(36, "a 151st byte", x.type(';'), FULL);
        x.mends(0);
        int[] then = {8, 8, 9, 15, 1, 7, 5, 6, 6, 8, 150};
        for (int what = 0; what <= 10; what++) {
            Bench.due(36, "beyond the most: count " + what, x.count(what), then[what]);
        }
    }

    private static void countSpots() {
        // By which of hat 0, shirt 1, coat 2, boots 3 are ON.
        int[] spots = {1, 2, 6, 8};
        for (int set = 0; set < 16; set++) {
            int which = set;
            int due = 0;
            for (int i = 0; i < 4; i++) {
                due |= (set >> i & 1) == 1 ? spots[i] : 0;
            }
            Bench.Making making = () -> {
                PaperDolls x = Bench.made(0, 3, 0, 9, 0, 0, 9, 1, 0, 9, 4, 0, 9);
                for (int i = 0; i < 4; i++) {
                    if ((which >> i & 1) == 1) {
                        x.puts(i);
                    }
                }
                return x;
            };
            Bench.answered(36, "SPOTS COVERED, of " + set, making, x -> x.count(3), due);
            Bench.answered(36, "DRESSED, if all are, of " + set, making, x -> x.count(4), due == 15 ? 1 : 0);
        }
    }

    private static void countWorn() {
        PaperDolls x = Bench.made(0, 3, 0, 9, 3, 0, 9, 3, 0, 9);
        for (int i = 0; i < 3; i++) {
            Bench.wear(x, i, 33);
            Bench.due(36, "WORN of all together", x.count(5), 33 * (i + 1));
        }
        x.mends(1);
        Bench.due(36, "one MENDED", x.count(5), 66);
        Bench.due(36, "MOVES", x.count(2), 199);
        x.doll(0);
        Bench.due(36, "no PIECES", x.count(5), 0);
    }

    // ---- promise 37

    private static long hash(long... values) {
        BigInteger h = BigInteger.valueOf(1867);
        for (long v : values) {
            h = h.multiply(BigInteger.valueOf(31)).add(BigInteger.valueOf(v));
        }
        return h.longValue();
    }

    private static void digestLeast() {
        Bench.answered(37, "a new object", PaperDolls::new, x -> x.digest(), hash(0, 0, 0, 0, 0, 0, 0, 0, 0, 0, 0, 0, 1));
    }

    private static void digestMost() {
        long[] values = new long[11 + 32 + 8 + 18 + 24 + 2];
        long[] counts = {8, 8, 8, 15, 1, 8, 5, 6, 6, 8, 150};
        int at = 0;
        for (long count : counts) {
            values[at++] = count;
        }
        for (int i = 0; i < 8; i++) {
            values[at++] = i % 6;
            values[at++] = 0;
            values[at++] = 9;
            values[at++] = 1;
        }
        for (int i = 0; i < 8; i++) {
            values[at++] = i;
        }
        for (int n = 0; n < 6; n++) {
            values[at++] = 0;
            values[at++] = 3;
            values[at++] = 1;
        }
        for (int n = 0; n < 6; n++) {
            values[at++] = n;
            values[at++] = 9;
            values[at++] = 99;
            values[at++] = 40;
        }
        values[at++] = 0;
        values[at++] = 1;
        Bench.answered(37, "the most of all", EdgesOfStateTest::most, x -> x.digest(), hash(values));
        PaperDolls x = Bench.made(3, 2, 3, 9);
        x.mark(0, 1, 0, -99);
        Bench.due(37, "a number below 0", x.digest(), hash(1, 0, 0, 0, 0, 0, 3, 0, 1, 0, 0, 2, 3, 9, 0, 0, 1, 0, -99, 0, 1));
    }

    private static void digestOrder() {
        PaperDolls x = Bench.made(0, 3, 0, 9, 4, 1, 8);
        x.puts(1);
        x.puts(0);
        Bench.due(37, "the PIECES that are ON, in order", x.digest(),
            hash(2, 2, 2, 9, 0, 2, 0, 0, 0, 2, 0, 3, 0, 9, 1, 4, 1, 8, 1, 1, 0, 0, 1));
        x.takes(1);
        Bench.due(37, "one TAKEN OFF", x.digest(),
            hash(2, 1, 3, 1, 0, 2, 0, 0, 0, 3, 0, 3, 0, 9, 1, 4, 1, 8, 1, 0, 0, 1));
        Bench.due(37, "rich", Bench.rich().digest(), hash(5, 3, 6, 15, 1, 3, 0, 1, 1, 6, 24,
            1, 0, 9, 1, 3, 0, 9, 1, 4, 1, 9, 1, 5, 1, 2, 0, 0, 1, 1, 0, 1, 0, 2, 0, 1, 1, 2, 9, 0, 11, 2, 3));
    }

    private static void digestLeavesOut() {
        PaperDolls x = Bench.rich();
        long was = x.digest();
        x.puts(9);
        x.undo();
        x.puts(2);
        Bench.due(37, "STATUS is not in it", x.digest(), was);
        x.image(1);
        Bench.due(37, "IMAGES are not in it", x.digest(), was);
        Bench.typed(x, Bench.times(Bench.RICH_TEXT.length(), "x"));
        Bench.due(37, "of THE TEXT its length alone", x.digest(), was);
        x.type('x');
        Bench.so(37, "of THE TEXT its length", x.digest() != was);
    }
}
