/** The boundary cases of promises 14 to 21, sentence by sentence: what goes. */
public final class EdgesOfGoingTest {
    private static final int NONE = Bench.NONE;
    private static final int NOT_SO_MANY = Bench.NOT_SO_MANY;
    private static final int NO_ROW = Bench.NO_ROW;
    private static final int MAX = Bench.MAX;

    public static void main(String[] args) {
        canLeastAndMost();
        canHoldsAndGoes();
        canIsWhatPutsTakes();
        offLeastAndMost();
        offIsWhatTakesTakes();
        goingNumbers();
        goingItself();
        goingWhateverItIs();
        outfitsK();
        outfitsEighteen();
        outfitsThatHold();
        outfitsThatGo();
        outfitsWithNothingToSpare();
        outfitsOnOrNot();
        leanNumbers();
        leanNone();
        leanLeastAndFirst();
        daysCases();
        sparedCases();
        fewNone();
        fewByK();
        fewZeroToThree();
        fewFirstRow();
        fewOffAndMend();
        fewTooMany();
        Bench.end(14, 21);
    }

    private static Bench.Making worn(int times, int childKind, int... pieces) {
        return () -> Bench.wear(Bench.made(childKind, pieces), 0, times);
    }

    private static Bench.Making on(int[] order, int childKind, int... pieces) {
        return () -> {
            PaperDolls x = Bench.made(childKind, pieces);
            for (int i : order) {
                x.puts(i);
            }
            return x;
        };
    }

    // ---- promise 14

    private static void canLeastAndMost() {
        Bench.answered(14, "no PIECES", PaperDolls::new, x -> x.can(), 0);
        Bench.answered(14, "all eight", Bench::eight, x -> x.can(), 255);
        Bench.answered(14, "all eight are ON", Bench::eightOn, x -> x.can(), 0);
        Bench.answered(14, "of five three are ON", Bench::rich, x -> x.can(), 8 + 16);
        Bench.answered(14, "one", () -> Bench.made(0, 0, 3, 1), x -> x.can(), 1);
    }

    private static void canHoldsAndGoes() {
        Bench.answered(14, "HOLDING by 1, by 0", () -> Bench.made(0, 1, 0, 2, 1, 0, 1, 0, 0, 1), x -> x.can(), 1 + 4);
        Bench.answered(14, "WORN 2 HOLDS by 1", worn(2, 0, 0, 0, 1), x -> x.can(), 1);
        Bench.answered(14, "WORN 3 HOLDS by 0", worn(3, 0, 0, 0, 1), x -> x.can(), 0);
        int[] first = {0};
        for (int k = 0; k <= 5; k++) {
            for (int a = 0; a <= 3; a++) {
                int kind = k;
                Bench.Making making = on(first, kind, 3, a, 9, 0, 0, 9, 1, 1, 9, 2, 2, 9, 4, 3, 9);
                Bench.answered(14, "child " + k + ", beside " + a, making, x -> x.can(), Bench.GOES[k][a] << 1);
            }
        }
        int[] both = {0, 1};
        Bench.answered(14, "GOES with each that is ON", on(both, 0, 0, 1, 9, 3, 2, 9, 4, 0, 9, 4, 1, 9, 4, 2, 9, 4, 3, 9),
            x -> x.can(), 8 + 16);
    }

    private static void canIsWhatPutsTakes() {
        Bench.Making[] makings = {Bench::rich, Bench::eight, Bench::eightOn, worn(3, 0, 0, 0, 1, 0, 1, 1, 0, 2, 1)};
        for (Bench.Making making : makings) {
            int can = making.make().can();
            for (int i = 0; i < 8; i++) {
                boolean put = making.make().puts(i) >= 0;
                Bench.so(14, "PIECES that could be PUT ON: " + i, put == ((can >> i & 1) == 1));
            }
        }
    }

    // ---- promise 15

    private static void offLeastAndMost() {
        Bench.answered(15, "no PIECES", PaperDolls::new, x -> x.off(), 0);
        Bench.answered(15, "none are ON", Bench::eight, x -> x.off(), 0);
        Bench.answered(15, "of eight the uppermost shirt and hat", Bench::eightOn, x -> x.off(), 64 + 128);
        Bench.answered(15, "hat, coat, boots: all", Bench::rich, x -> x.off(), 1 + 2 + 4);
        int[] all = {0, 1, 2};
        Bench.answered(15, "the suit is over both", on(all, 0, 0, 0, 9, 4, 0, 9, 5, 0, 9), x -> x.off(), 4);
        Bench.answered(15, "it HOLDS no more", () -> {
            PaperDolls x = Bench.wear(Bench.made(0, 4, 0, 1), 0, 2);
            x.puts(0);
            return x;
        }, x -> x.off(), 1);
    }

    private static void offIsWhatTakesTakes() {
        Bench.Making[] makings = {Bench::rich, Bench::eight, Bench::eightOn,
            on(new int[] {2, 0, 1}, 0, 0, 0, 9, 4, 0, 9, 5, 0, 9)};
        for (Bench.Making making : makings) {
            int off = making.make().off();
            for (int i = 0; i < 8; i++) {
                boolean taken = making.make().takes(i) >= 0;
                Bench.so(15, "PIECES that could be TAKEN OFF: " + i, taken == ((off >> i & 1) == 1));
            }
        }
    }

    // ---- promise 16

    private static void goingNumbers() {
        Bench.pieceNumber(16, (x, i) -> x.going(i));
        for (int n = 0; n < 8; n++) {
            int i = n;
            Bench.answered(16, "all eight", Bench::eight, x -> x.going(i), 255);
            Bench.answered(16, "all eight, ON", Bench::eightOn, x -> x.going(i), 255);
        }
    }

    private static void goingItself() {
        for (int k = 0; k <= 5; k++) {
            for (int c = 0; c <= 3; c++) {
                int kind = k;
                int colour = c;
                int self = Bench.GOES[kind][colour] >> colour & 1;
                Bench.answered(16, "itself, if it GOES with itself: child " + kind + ", COLOUR " + colour,
                    () -> Bench.made(kind, 0, colour, 9), x -> x.going(0), self);
                Bench.answered(16, "all COLOURS: child " + kind + ", COLOUR " + colour,
                    () -> Bench.made(kind, 0, 0, 9, 0, 1, 9, 0, 2, 9, 0, 3, 9), x -> x.going(colour),
                    Bench.GOES[kind][colour]);
            }
        }
        Bench.answered(16, "gaudy: none of eight alike", () -> {
            PaperDolls x = Bench.eight();
            x.child(Bench.GAUDY);
            return x;
        }, x -> x.going(7), 0);
    }

    private static void goingWhateverItIs() {
        Bench.answered(16, "it need not HOLD", () -> Bench.made(0, 1, 0, 1, 5, 1, 1), x -> x.going(0), 3);
        Bench.answered(16, "ON or not", Bench::rich, x -> x.going(0), 31);
        Bench.answered(16, "WORN or not", worn(3, 1, 0, 2, 1, 0, 2, 9), x -> x.going(1), 3);
    }

    // ---- promise 17

    private static void outfitsK() {
        Bench.fromHowMany(17, PaperDolls::new, (x, k) -> x.outfits(k));
        Bench.fromHowMany(17, Bench::eight, (x, k) -> x.outfits(k));
        Bench.answered(17, "no PIECES: how many", PaperDolls::new, x -> x.outfits(-1), 0);
        Bench.answered(17, "no PIECES: the first", PaperDolls::new, x -> x.outfits(0), NOT_SO_MANY);
        Bench.answered(17, "no PIECES: MAX", PaperDolls::new, x -> x.outfits(MAX), NOT_SO_MANY);
        // Cloak 0, boots 1: one outfit.
        Bench.Making one = () -> Bench.made(0, 2, 0, 2, 4, 0, 1);
        Bench.answered(17, "how many", one, x -> x.outfits(-1), 1);
        Bench.answered(17, "the first", one, x -> x.outfits(0), 3);
        Bench.answered(17, "not so many", one, x -> x.outfits(1), NOT_SO_MANY);
        Bench.answered(17, "not so many", one, x -> x.outfits(69), NOT_SO_MANY);
        Bench.answered(17, "not so many", one, x -> x.outfits(70), NOT_SO_MANY);
        Bench.answered(17, "not so many", one, x -> x.outfits(255), NOT_SO_MANY);
        Bench.answered(17, "not so many", one, x -> x.outfits(MAX), NOT_SO_MANY);
        // Eight: cloak or hat with the suit, cloak with boots, coat, hat, boots, by either hat.
        int[] eight = {4 + 16, 2 + 8 + 16, 4 + 32, 8 + 32, 2 + 16 + 128, 32 + 128};
        Bench.answered(17, "of eight how many", Bench::eight, x -> x.outfits(-1), 6);
        for (int n = 0; n < 6; n++) {
            int k = n;
            Bench.answered(17, "of eight the k-th", Bench::eight, x -> x.outfits(k), eight[k]);
        }
        Bench.answered(17, "of eight not so many", Bench::eight, x -> x.outfits(6), NOT_SO_MANY);
    }

    /** Two coats, three hats, three boots: no eight pieces have more outfits than these. */
    private static PaperDolls eighteen() {
        return Bench.made(Bench.STRICT, 1, 0, 9, 1, 0, 9, 3, 0, 9, 3, 0, 9, 3, 0, 9, 4, 0, 9, 4, 0, 9, 4, 0, 9);
    }

    private static void outfitsEighteen() {
        Bench.answered(17, "the most OUTFITS", EdgesOfGoingTest::eighteen, x -> x.outfits(-1), 18);
        PaperDolls x = eighteen();
        int k = 0;
        for (int boots = 32; boots <= 128; boots *= 2) {
            for (int hat = 4; hat <= 16; hat *= 2) {
                for (int coat = 1; coat <= 2; coat *= 2) {
                    Bench.due(17, "the k-th, rising", x.outfits(k), boots + hat + coat);
                    k++;
                }
            }
        }
        Bench.answered(17, "the last", EdgesOfGoingTest::eighteen, y -> y.outfits(17), 2 + 16 + 128);
        Bench.answered(17, "behind the last", EdgesOfGoingTest::eighteen, y -> y.outfits(18), NOT_SO_MANY);
        Bench.answered(17, "one of paper 1", () -> Bench.made(0, 1, 0, 1, 3, 0, 1, 4, 0, 1), y -> y.outfits(-1), 0);
    }

    private static void outfitsThatHold() {
        Bench.answered(17, "each HOLDING by 1", () -> Bench.made(0, 2, 0, 2, 4, 0, 1), x -> x.outfits(-1), 1);
        Bench.answered(17, "a cloak HOLDING by 0", () -> Bench.made(0, 2, 0, 1, 4, 0, 9), x -> x.outfits(-1), 0);
        Bench.answered(17, "a suit HOLDING by 0", () -> Bench.made(0, 5, 0, 1, 3, 0, 9), x -> x.outfits(-1), 0);
        Bench.answered(17, "a suit HOLDING by 2", () -> Bench.made(0, 5, 0, 2, 3, 0, 9), x -> x.outfits(-1), 1);
        Bench.answered(17, "boots HOLDING by 1", worn(2, 0, 4, 0, 1, 2, 0, 9), x -> x.outfits(-1), 1);
        Bench.answered(17, "boots HOLDING by -1", worn(3, 0, 4, 0, 1, 2, 0, 9), x -> x.outfits(-1), 0);
        PaperDolls x = worn(3, 0, 4, 0, 1, 2, 0, 9).make();
        x.mends(0);
        Bench.due(17, "boots mended", x.outfits(-1), 1);
        PaperDolls y = Bench.made(0, 4, 0, 1, 2, 0, 9);
        Bench.wear(y, 0, 2);
        y.puts(0);
        Bench.due(17, "boots that are ON, HOLDING by -1", y.outfits(-1), 0);
    }

    private static void outfitsThatGo() {
        for (int k = 0; k <= 5; k++) {
            for (int a = 0; a <= 3; a++) {
                for (int b = 0; b <= 3; b++) {
                    int kind = k;
                    int one = a;
                    int other = b;
                    Bench.answered(17, "any two GOING: child " + k + ", " + a + ", " + b,
                        () -> Bench.made(kind, 5, one, 9, 3, other, 9), x -> x.outfits(-1),
                        Bench.GOES[k][a] >> b & 1);
                }
            }
        }
        Bench.answered(17, "of three, two do not GO", () -> Bench.made(0, 1, 1, 9, 3, 0, 9, 4, 2, 9), x -> x.outfits(-1), 0);
        Bench.answered(17, "of three, all GO", () -> Bench.made(0, 1, 1, 9, 3, 0, 9, 4, 1, 9), x -> x.outfits(-1), 1);
        Bench.answered(17, "one need not GO with itself", () -> Bench.made(2, 5, 0, 9, 3, 2, 9), x -> x.outfits(-1), 1);
    }

    private static void outfitsWithNothingToSpare() {
        Bench.answered(17, "three SPOTS are not all", () -> Bench.made(0, 2, 0, 9, 3, 0, 9, 0, 0, 9), x -> x.outfits(-1), 0);
        Bench.answered(17, "three SPOTS are not all", () -> Bench.made(0, 5, 0, 9, 4, 0, 9), x -> x.outfits(-1), 0);
        Bench.answered(17, "the shirt could be left out", () -> Bench.made(0, 0, 0, 9, 2, 0, 9, 4, 0, 9), x -> x.outfits(-1), 1);
        Bench.answered(17, "the boots could be left out", () -> Bench.made(0, 3, 0, 9, 4, 0, 9, 5, 0, 9), x -> x.outfits(0), 5);
        Bench.answered(17, "a coat beside a cloak", () -> Bench.made(0, 1, 0, 9, 2, 0, 9, 4, 0, 9), x -> x.outfits(0), 6);
        Bench.answered(17, "cloak and suit have SPOTS in common", () -> Bench.made(0, 2, 0, 9, 5, 0, 9), x -> x.outfits(0), 3);
        Bench.answered(17, "eight shirts", () -> Bench.made(0, 0, 0, 9, 0, 0, 9, 0, 0, 9, 0, 0, 9, 0, 0, 9, 0, 0, 9,
            0, 0, 9, 0, 0, 9), x -> x.outfits(-1), 0);
    }

    private static void outfitsOnOrNot() {
        outfitsWith();
        outfitsWith(0);
        outfitsWith(1);
        outfitsWith(1, 0);
        outfitsWith(2);
    }

    /** Cloak and boots, and a shirt that does not go with them; whichever are ON, there is one outfit. */
    private static void outfitsWith(int... which) {
        Bench.Making making = on(which, 0, 2, 0, 9, 4, 0, 9, 0, 3, 9);
        Bench.answered(17, "ON or not", making, x -> x.outfits(-1), 1);
        Bench.answered(17, "ON or not", making, x -> x.outfits(0), 3);
    }

    // ---- promise 18

    private static void leanNumbers() {
        Bench.bounds(18, "what 0, 1", Bench::eight, (x, what) -> x.lean(what), 0, 1);
        Bench.bounds(18, "what 0, 1, with no OUTFIT", PaperDolls::new, (x, what) -> x.lean(what), 0, 1);
    }

    private static void leanNone() {
        Bench.answered(18, "no PIECES: NONE", PaperDolls::new, x -> x.lean(0), NONE);
        Bench.answered(18, "no PIECES: NONE", PaperDolls::new, x -> x.lean(1), NONE);
        Bench.answered(18, "no OUTFIT: NONE", () -> Bench.made(0, 2, 0, 9, 4, 2, 9), x -> x.lean(0), NONE);
        Bench.answered(18, "no OUTFIT: NONE", () -> Bench.made(0, 2, 0, 9, 4, 2, 9), x -> x.lean(1), NONE);
        Bench.answered(18, "no OUTFIT, though DRESSED: NONE", () -> {
            PaperDolls x = on(new int[] {0, 1}, Bench.GAUDY, 2, 0, 9, 4, 2, 9).make();
            x.child(Bench.STRICT);
            return x;
        }, x -> x.lean(0), NONE);
    }

    private static void leanLeastAndFirst() {
        Bench.Making three = () -> Bench.made(0, 4, 0, 9, 3, 0, 9, 1, 0, 9);
        Bench.answered(18, "three", three, x -> x.lean(0), 3);
        Bench.answered(18, "three: which", three, x -> x.lean(1), 7);
        Bench.answered(18, "three, of eighteen", EdgesOfGoingTest::eighteen, x -> x.lean(0), 3);
        Bench.answered(18, "the first of eighteen", EdgesOfGoingTest::eighteen, x -> x.lean(1), 1 + 4 + 32);
        Bench.answered(18, "two", Bench::eight, x -> x.lean(0), 2);
        Bench.answered(18, "the first of two, not of all", Bench::eight, x -> x.lean(1), 4 + 16);
        // Coat, hat, boots are 0, 1, 2 and come first; hat 1 with suit 7 is leaner.
        Bench.Making late = () -> Bench.made(0, 1, 0, 9, 3, 0, 9, 4, 0, 9, 0, 0, 9, 0, 0, 9, 0, 0, 9, 0, 0, 9, 5, 0, 9);
        Bench.answered(18, "the fewest come last", late, x -> x.lean(0), 2);
        Bench.answered(18, "the fewest come last", late, x -> x.lean(1), 2 + 128);
        // Suit 0 with hat 3 is 9; cloak 1 with boots 2 is 6.
        Bench.Making like = () -> Bench.made(0, 5, 0, 9, 2, 1, 9, 4, 1, 9, 3, 0, 9);
        Bench.answered(18, "of like ones the first: cloak and suit", like, x -> x.lean(1), 3);
        Bench.answered(18, "of like ones the first, by bits", () -> Bench.made(1, 5, 0, 9, 2, 1, 9, 4, 1, 9, 3, 0, 9),
            x -> x.lean(1), 6);
    }

    // ---- promise 19

    private static void daysCases() {
        Bench.answered(19, "no PIECES", PaperDolls::new, x -> x.days(), 0);
        Bench.answered(19, "no OUTFIT", () -> Bench.made(0, 2, 0, 9, 4, 2, 9), x -> x.days(), 0);
        Bench.answered(19, "one", () -> Bench.made(0, 2, 0, 9, 4, 0, 9), x -> x.days(), 1);
        Bench.answered(19, "the most: four",
            () -> Bench.made(0, 2, 0, 9, 2, 0, 9, 2, 0, 9, 2, 0, 9, 4, 0, 9, 4, 0, 9, 4, 0, 9, 4, 0, 9), x -> x.days(), 4);
        Bench.answered(19, "four, by suits and hats",
            () -> Bench.made(3, 5, 0, 9, 3, 3, 9, 5, 1, 9, 3, 2, 9, 5, 2, 9, 3, 1, 9, 5, 3, 9, 3, 0, 9), x -> x.days(), 4);
        Bench.answered(19, "seven PIECES of two each: three",
            () -> Bench.made(0, 2, 0, 9, 2, 0, 9, 2, 0, 9, 2, 0, 9, 4, 0, 9, 4, 0, 9, 4, 0, 9), x -> x.days(), 3);
        Bench.answered(19, "eighteen of three PIECES: two", EdgesOfGoingTest::eighteen, x -> x.days(), 2);
        Bench.answered(19, "all have a PIECE in common",
            () -> Bench.made(0, 4, 0, 9, 2, 0, 9, 2, 0, 9, 2, 0, 9), x -> x.days(), 1);
        // Coat, hat, boots twice, and cloak with suit.
        Bench.answered(19, "three, of unlike sizes",
            () -> Bench.made(0, 1, 0, 9, 3, 0, 9, 4, 0, 9, 1, 0, 9, 3, 0, 9, 4, 0, 9, 2, 0, 9, 5, 0, 9), x -> x.days(), 3);
        Bench.answered(19, "cloak with suit would be one day", () -> Bench.made(0, 2, 0, 9, 5, 0, 9, 3, 0, 9, 4, 0, 9),
            x -> x.days(), 2);
    }

    // ---- promise 20

    private static void sparedCases() {
        Bench.answered(20, "no PIECES", PaperDolls::new, x -> x.spared(), 0);
        Bench.answered(20, "none", () -> Bench.made(0, 2, 0, 9, 4, 0, 9), x -> x.spared(), 0);
        Bench.answered(20, "none of eight", EdgesOfGoingTest::eighteen, x -> x.spared(), 0);
        Bench.answered(20, "the shirts of eight", Bench::eight, x -> x.spared(), 1 + 64);
        Bench.answered(20, "the shirts of eight, ON", Bench::eightOn, x -> x.spared(), 1 + 64);
        Bench.answered(20, "no OUTFIT: all", () -> Bench.made(0, 2, 0, 9, 4, 2, 9), x -> x.spared(), 3);
        Bench.answered(20, "no OUTFIT: all eight", () -> Bench.made(0, 0, 0, 9, 0, 0, 9, 0, 0, 9, 0, 0, 9, 0, 0, 9,
            0, 0, 9, 0, 0, 9, 0, 0, 9), x -> x.spared(), 255);
        Bench.answered(20, "one that does not HOLD", () -> Bench.made(0, 2, 0, 9, 4, 0, 9, 5, 0, 1), x -> x.spared(), 4);
        Bench.answered(20, "one that does not GO", () -> Bench.made(0, 2, 0, 9, 4, 0, 9, 4, 2, 9), x -> x.spared(), 4);
    }

    // ---- promise 21

    private static void fewNone() {
        Bench.fromHowMany(21, PaperDolls::new, (x, k) -> x.few(k));
        Bench.fromHowMany(21, Bench::eight, (x, k) -> x.few(k));
        Bench.fromHowMany(21, Bench::rich, (x, k) -> x.few(k));
        for (int n : new int[] {-1, 0, 1, 2, 3, 4, MAX}) {
            Bench.answered(21, "none, whatever k is: " + n, PaperDolls::new, x -> x.few(n), NO_ROW);
            Bench.answered(21, "none, whatever k is: " + n, () -> Bench.made(0, 2, 0, 9, 4, 2, 9), x -> x.few(n), NO_ROW);
        }
        Bench.answered(21, "one that never HOLDS", () -> Bench.made(0, 2, 0, 1, 4, 0, 9), x -> x.few(-1), NO_ROW);
        Bench.answered(21, "no SPOT is left out", () -> Bench.made(0, 2, 0, 9, 3, 0, 9), x -> x.few(-1), NO_ROW);
    }

    private static void fewByK() {
        Bench.Making three = () -> Bench.made(0, 4, 0, 9, 3, 0, 9, 1, 0, 9);
        int[] due = {3, 0, 1, 2, NOT_SO_MANY, NOT_SO_MANY};
        for (int n = -1; n <= 4; n++) {
            int k = n;
            Bench.answered(21, "three: " + k, three, x -> x.few(k), due[k + 1]);
        }
        Bench.answered(21, "three: MAX", three, x -> x.few(MAX), NOT_SO_MANY);
    }

    private static void fewZeroToThree() {
        Bench.answered(21, "DRESSED: 0", Bench::rich, x -> x.few(-1), 0);
        Bench.answered(21, "DRESSED: no first", Bench::rich, x -> x.few(0), NOT_SO_MANY);
        Bench.answered(21, "DRESSED: MAX", Bench::rich, x -> x.few(MAX), NOT_SO_MANY);
        Bench.Making one = on(new int[] {0}, 0, 2, 0, 9, 4, 0, 9);
        Bench.answered(21, "one", one, x -> x.few(-1), 1);
        Bench.answered(21, "one: which", one, x -> x.few(0), 1);
        Bench.answered(21, "one: no second", one, x -> x.few(1), NOT_SO_MANY);
        Bench.Making least = on(new int[] {1}, 0, 4, 0, 9, 2, 0, 9);
        Bench.answered(21, "one: PIECE 0", least, x -> x.few(-1), 1);
        Bench.answered(21, "one: PIECE 0", least, x -> x.few(0), 0);
        Bench.answered(21, "one: PIECE 0, no second", least, x -> x.few(1), NOT_SO_MANY);
        Bench.Making last = on(new int[] {7}, 0, 0, 0, 9, 0, 0, 9, 0, 0, 9, 0, 0, 9, 0, 0, 9, 0, 0, 9, 4, 0, 9, 2, 0, 9);
        Bench.answered(21, "one: PIECE 6 of eight", last, x -> x.few(0), 6);
        Bench.Making two = () -> Bench.made(0, 2, 0, 9, 4, 0, 9);
        Bench.answered(21, "two", two, x -> x.few(-1), 2);
        Bench.answered(21, "two: the first", two, x -> x.few(0), 0);
        Bench.answered(21, "two: the second", two, x -> x.few(1), 1);
        Bench.answered(21, "two: no third", two, x -> x.few(2), NOT_SO_MANY);
        Bench.answered(21, "what is ON need not be an OUTFIT", on(new int[] {0, 1}, 0, 0, 0, 9, 3, 0, 9, 5, 0, 9),
            x -> x.few(-1), 1);
    }

    private static void fewFirstRow() {
        // Eight: cloak 2, hats 3 and 7, boots 4, suit 5: two moves; 2 then 4 is the first row.
        Bench.answered(21, "the first row", Bench::eight, x -> x.few(0), 2);
        Bench.answered(21, "the first row", Bench::eight, x -> x.few(1), 4);
        // Boots 6 and cloak 7: by either order she is dressed; 6 comes first.
        Bench.Making late = () -> Bench.made(0, 0, 0, 9, 0, 0, 9, 0, 0, 9, 0, 0, 9, 0, 0, 9, 0, 0, 9, 4, 0, 9, 2, 0, 9);
        Bench.answered(21, "two, the last PIECES", late, x -> x.few(-1), 2);
        Bench.answered(21, "two, the last PIECES", late, x -> x.few(0), 6);
        Bench.answered(21, "two, the last PIECES", late, x -> x.few(1), 7);
        Bench.answered(21, "of like ones the least", on(new int[] {0}, 0, 2, 0, 9, 3, 0, 9, 4, 0, 9, 5, 0, 9, 4, 0, 9),
            x -> x.few(0), 2);
        // The first in number goes with neither: boots 0 of colour 3; the row is 1, 2.
        Bench.Making bad = () -> Bench.made(1, 4, 3, 9, 2, 0, 9, 4, 0, 9);
        Bench.answered(21, "a row must end DRESSED", bad, x -> x.few(0), 1);
        Bench.answered(21, "a row must end DRESSED", bad, x -> x.few(1), 2);
    }

    private static void fewOffAndMend() {
        // The shirt 7 of another colour is in the way: OFF 7, ON 0, ON 1.
        Bench.Making off = on(new int[] {7}, 1, 2, 1, 9, 4, 1, 9, 0, 2, 9, 0, 2, 9, 0, 2, 9, 0, 2, 9, 0, 2, 9, 0, 0, 9);
        int[] offDue = {3, 17, 0, 1, NOT_SO_MANY};
        // Boots 7, WORN 3, HOLD by -1: ON 0, MEND 7, ON 7.
        Bench.Making mend = () -> Bench.wear(Bench.made(0, 2, 0, 9, 0, 0, 9, 0, 0, 9, 0, 0, 9, 0, 0, 9, 0, 0, 9, 0, 0, 9,
            4, 0, 1), 7, 3);
        int[] mendDue = {3, 0, 27, 7, NOT_SO_MANY};
        for (int n = -1; n <= 3; n++) {
            int k = n;
            Bench.answered(21, "OFF 7: " + k, off, x -> x.few(k), offDue[k + 1]);
            Bench.answered(21, "MEND 7: " + k, mend, x -> x.few(k), mendDue[k + 1]);
        }
        // The cloak is ON; boots 1 are worn out, boots 0 do not go: MEND 1, ON 1.
        Bench.Making two = () -> {
            PaperDolls x = Bench.wear(Bench.made(0, 4, 2, 9, 4, 0, 1, 2, 0, 9), 1, 3);
            x.puts(2);
            return x;
        };
        int[] twoDue = {2, 21, 1, NOT_SO_MANY};
        // Cloak of colour 1 and over it a shirt of colour 3 are ON, by a gaudy child; a strict one has boots of 1.
        Bench.Making strict = () -> {
            PaperDolls x = on(new int[] {1, 0}, Bench.GAUDY, 0, 3, 9, 2, 1, 9, 4, 1, 9).make();
            x.child(Bench.STRICT);
            return x;
        };
        int[] strictDue = {2, 10, 2, NOT_SO_MANY};
        for (int n = -1; n <= 2; n++) {
            int k = n;
            Bench.answered(21, "MEND, ON: " + k, two, x -> x.few(k), twoDue[k + 1]);
            Bench.answered(21, "OFF, ON: " + k, strict, x -> x.few(k), strictDue[k + 1]);
        }
    }

    private static void fewTooMany() {
        // The shirt is under the cloak: cloak off, shirt off, cloak on, boots on.
        Bench.Making under = () -> {
            PaperDolls x = on(new int[] {0, 1}, Bench.GAUDY, 0, 3, 9, 2, 1, 9, 4, 1, 9).make();
            x.child(Bench.STRICT);
            return x;
        };
        // Both are worn out: mend, mend, on, on.
        Bench.Making worn = () -> Bench.wear(Bench.wear(Bench.made(0, 2, 0, 2, 4, 0, 1), 0, 3), 1, 3);
        // The shirt off, then three on.
        Bench.Making three = on(new int[] {0}, 1, 0, 0, 9, 1, 1, 9, 3, 1, 9, 4, 1, 9);
        for (int n : new int[] {-1, 0, 1, 2, 3, MAX}) {
            Bench.answered(21, "four: none, k " + n, under, x -> x.few(n), NO_ROW);
            Bench.answered(21, "four: none, k " + n, worn, x -> x.few(n), NO_ROW);
            Bench.answered(21, "four: none, k " + n, three, x -> x.few(n), NO_ROW);
        }
        PaperDolls x = three.make();
        x.takes(0);
        Bench.due(21, "one MOVE nearer: three", x.few(-1), 3);
    }
}
