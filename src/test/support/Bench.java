import java.util.ArrayList;
import java.util.List;

/** Compares answers with those that are due, and tells the wrong ones by the promise's number. */
final class Bench {
    static final int NONE = -101;
    static final int BAD = -102;
    static final int NO = -103;
    static final int FULL = -104;
    static final int NOT_SO_MANY = -5;
    static final int NO_ROW = -6;
    static final int MIN = Integer.MIN_VALUE;
    static final int MAX = Integer.MAX_VALUE;

    static final int SHIRT = 0;
    static final int COAT = 1;
    static final int CLOAK = 2;
    static final int HAT = 3;
    static final int BOOTS = 4;
    static final int SUIT = 5;

    static final int PLAIN = 0;
    static final int STRICT = 1;
    static final int GAUDY = 2;
    static final int PAIRS = 3;
    static final int WINTRY = 4;
    static final int FREE = 5;

    /** By child's kind and a, the colours (bits) that go with a; written out from the document by hand. */
    static final int[][] GOES = {
        {0b0011, 0b0111, 0b1110, 0b1100},
        {0b0001, 0b0010, 0b0100, 0b1000},
        {0b1100, 0b1000, 0b0001, 0b0011},
        {0b1001, 0b0110, 0b0110, 0b1001},
        {0b0011, 0b0111, 0b0110, 0b0000},
        {0b1111, 0b1001, 0b0001, 0b0011},
    };

    /** The text that rich() has typed. */
    static final String RICH_TEXT = "doll 1;piece 2 0 9;on 0;";

    private static final int PROMISES = 37;
    private static final int[] ASKED = new int[PROMISES + 1];
    private static int wrong = 0;

    private Bench() {
    }

    /** Brings a new object to the case that is tested. */
    interface Making {
        PaperDolls make();
    }

    interface Call {
        long on(PaperDolls x);
    }

    interface NumberCall {
        long on(PaperDolls x, int number);
    }

    static void due(int promise, String sentence, long got, long want) {
        ASKED[promise]++;
        if (got != want) {
            wrong++;
            System.out.println("promise " + promise + ": " + sentence + ": answered " + got + ", due is " + want);
        }
    }

    static void so(int promise, String sentence, boolean is) {
        due(promise, sentence, is ? 1 : 0, 1);
    }

    /** Tells how it went; each promise from first to last must have been asked for. */
    static void end(int first, int last) {
        int all = 0;
        for (int promise = first; promise <= last; promise++) {
            all += ASKED[promise];
            if (ASKED[promise] == 0) {
                wrong++;
                System.out.println("promise " + promise + ": no test");
            }
        }
        System.out.println("promises " + first + " to " + last + ": " + all + " answers asked for, " + wrong + " wrong");
        System.exit(wrong == 0 ? 0 : 1);
    }

    /** A doll with these pieces, three numbers each. */
    static PaperDolls made(int childKind, int... pieces) {
        PaperDolls x = new PaperDolls();
        x.doll(childKind);
        for (int i = 0; i + 2 < pieces.length; i += 3) {
            x.piece(pieces[i], pieces[i + 1], pieces[i + 2]);
        }
        return x;
    }

    /** Pieces 0 to 7, each of which can be put on: shirt, coat, cloak, hat, boots, suit, shirt, hat. */
    static PaperDolls eight() {
        return made(PLAIN, 0, 0, 9, 1, 0, 9, 2, 0, 9, 3, 0, 9, 4, 0, 9, 5, 0, 9, 0, 0, 9, 3, 0, 9);
    }

    static PaperDolls eightOn() {
        PaperDolls x = eight();
        for (int i = 0; i < 8; i++) {
            x.puts(i);
        }
        return x;
    }

    /**
     * Something of all there is: five pieces, of which hat, coat, boots are ON in this order (dressed), six moves
     * that may be undone, a note, a mark, image 0 from two moves ago, a text, the fraction 2/3, BAD 1, NO 1.
     */
    static PaperDolls rich() {
        PaperDolls x = made(PLAIN, COAT, 0, 9, HAT, 0, 9, BOOTS, 1, 9, SUIT, 1, 2, SHIRT, 1, 1);
        x.note(0, 1, 1);
        x.mark(2, 9, 0, 11);
        x.puts(0);
        x.puts(1);
        x.takes(0);
        x.mends(0);
        x.image(0);
        x.puts(0);
        x.luck(1);
        x.puts(2);
        x.puts(9);
        x.takes(3);
        return typed(x, RICH_TEXT);
    }

    static PaperDolls typed(PaperDolls x, String text) {
        x.clear();
        for (int n = 0; n < text.length(); n++) {
            x.type(text.charAt(n));
        }
        return x;
    }

    static int read(PaperDolls x, String text) {
        return typed(x, text).read();
    }

    static String times(int n, String text) {
        return text.repeat(n);
    }

    /** Puts a piece on and takes it off, so often. */
    static PaperDolls wear(PaperDolls x, int i, int times) {
        for (int n = 0; n < times; n++) {
            x.puts(i);
            x.takes(i);
        }
        return x;
    }

    /** The call is refused for this reason, and changes nothing but STATUS, as all later calls show. */
    static void refused(int promise, String sentence, Making making, Call call, int reason) {
        PaperDolls x = making.make();
        PaperDolls twin = making.make();
        due(promise, sentence, call.on(x), reason);
        for (int what = 0; what <= 2; what++) {
            int more = what == BAD - reason ? 1 : 0;
            due(promise, sentence + ", status " + what, x.status(what), twin.status(what) + more);
        }
        same(promise, sentence, x, twin);
    }

    /** The call answers this, is not refused, and changes nothing, as all later calls show. */
    static void answered(int promise, String sentence, Making making, Call call, long want) {
        PaperDolls x = making.make();
        PaperDolls twin = making.make();
        due(promise, sentence, call.on(x), want);
        for (int what = 0; what <= 2; what++) {
            due(promise, sentence + ", status " + what, x.status(what), twin.status(what));
        }
        same(promise, sentence, x, twin);
    }

    /** The call is refused as BAD below the least and above the most, and for neither of them. */
    static void bounds(int promise, String sentence, Making making, NumberCall call, int least, int most) {
        for (int number : new int[] {least - 1, most + 1, most + 256, MIN, MAX}) {
            refused(promise, sentence + ": " + number, making, x -> call.on(x, number), BAD);
        }
        for (int number : new int[] {least, most}) {
            notBad(promise, sentence + ": " + number, making.make(), x -> call.on(x, number));
        }
    }

    /** The call is refused as BAD below -1, and for no k from there on. */
    static void fromHowMany(int promise, Making making, NumberCall call) {
        for (int k : new int[] {-2, -3, -5, -6, -101, MIN}) {
            refused(promise, "BAD: below -1: " + k, making, x -> call.on(x, k), BAD);
        }
        for (int k : new int[] {-1, 0, 1, 100, MAX}) {
            notBad(promise, "BAD: below -1: " + k, making.make(), x -> call.on(x, k));
        }
    }

    /** The call is refused as BAD for each number that is not a piece's. */
    static void pieceNumber(int promise, NumberCall call) {
        for (int i : new int[] {0, -1, 1, 7, 8, 32, MIN, MAX}) {
            refused(promise, "no PIECES: " + i, PaperDolls::new, x -> call.on(x, i), BAD);
        }
        bounds(promise, "PIECES 0 .. 4 are there", Bench::rich, call, 0, 4);
        for (int i : new int[] {7, 8, 32}) {
            refused(promise, "PIECES 0 .. 4 are there: " + i, Bench::rich, x -> call.on(x, i), BAD);
        }
        bounds(promise, "PIECES 0 .. 7 are there", Bench::eight, call, 0, 7);
    }

    private static void notBad(int promise, String sentence, PaperDolls x, Call call) {
        int bad = x.status(0);
        so(promise, sentence + " is as told", call.on(x) != BAD);
        due(promise, sentence + ", status 0", x.status(0), bad);
    }

    private static void same(int promise, String sentence, PaperDolls x, PaperDolls twin) {
        List<Long> got = shown(x);
        List<Long> want = shown(twin);
        so(promise, sentence + ", all as it was: " + got + " and " + want, got.equals(want));
    }

    /** All that later calls show, but for STATUS: some 250 calls. */
    static List<Long> shown(PaperDolls x) {
        List<Long> all = new ArrayList<>();
        showDoll(x, all);
        showSearches(x, all);
        for (long left = x.undo(); left != NO; left = x.undo()) {
            all.add(left);
            all.add(x.digest());
        }
        showText(x, all);
        for (int i = 0; i <= 1; i++) {
            all.add((long) x.from(i));
            all.add(x.digest());
            all.add((long) x.undo());
            all.add(x.digest());
        }
        return all;
    }

    private static void showDoll(PaperDolls x, List<Long> all) {
        for (int what = 0; what <= 10; what++) {
            all.add((long) x.count(what));
        }
        for (int i = 0; i < x.count(0); i++) {
            for (int what = 0; what <= 6; what++) {
                all.add((long) x.of(i, what));
            }
            all.add((long) x.going(i));
            all.add((long) x.kinds(i));
            all.add((long) x.ask(i));
        }
        for (int spot = 0; spot <= 3; spot++) {
            all.add((long) x.seen(spot));
        }
        all.add(x.part(0));
        all.add(x.part(1));
        all.add(x.digest());
    }

    private static void showSearches(PaperDolls x, List<Long> all) {
        all.add((long) x.can());
        all.add((long) x.off());
        all.add((long) x.days());
        all.add((long) x.spared());
        all.add((long) x.is());
        all.add((long) x.look());
        all.add((long) x.lean(0));
        all.add((long) x.lean(1));
        for (int k = -1; k <= 3; k++) {
            all.add((long) x.outfits(k));
            all.add((long) x.few(k));
            all.add((long) x.two(k));
        }
        all.add((long) x.evenings(5, 60));
    }

    /** The text's own bytes show by the doll, or the fault, that it is read to. */
    private static void showText(PaperDolls x, List<Long> all) {
        all.add((long) x.read());
        all.add(x.digest());
        all.add((long) x.type(';'));
        all.add((long) x.read());
        all.add((long) x.clear());
    }
}
