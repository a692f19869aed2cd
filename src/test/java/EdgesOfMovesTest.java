import java.util.ArrayList;
import java.util.List;

/** The boundary cases of promises 8 to 13, sentence by sentence: moves. */
public final class EdgesOfMovesTest {
    private static final int NONE = Bench.NONE;
    private static final int BAD = Bench.BAD;
    private static final int NO = Bench.NO;

    /** How often a piece that is never mended can be put on, by kind and paper 1 .. 9, worked out by hand. */
    private static final int[][] PUTS = {
        {3, 6, 9, 12, 15, 18, 21, 24, 27},
        {0, 3, 6, 9, 12, 15, 18, 21, 24},
        {0, 3, 6, 9, 12, 15, 18, 21, 24},
        {9, 12, 15, 18, 21, 24, 27, 30, 33},
        {3, 3, 4, 5, 6, 6, 7, 8, 9},
        {0, 3, 6, 9, 12, 15, 18, 21, 24},
    };

    /** Whether a piece of the first kind can be taken off when one of the second kind is over it. */
    private static final boolean[][] FREE_UNDER = {
        {false, false, false, true, true, false},
        {false, false, false, true, true, false},
        {false, false, false, false, true, false},
        {true, true, false, false, true, true},
        {true, true, true, true, false, false},
        {false, false, false, true, false, false},
    };

    public static void main(String[] args) {
        putsWhatIsNotThere();
        putsWhatIsOn();
        putsUntilItDoesNotHold();
        putsWhatHoldsByOne();
        putsWhatGoes();
        putsWithEachThatIsOn();
        putsOverAllOthers();
        putsChangesThatMuch();
        takesWhatIsNotThere();
        takesWhatIsNotOn();
        takesFromUnder();
        takesFarFromAbove();
        takesFromTheMiddle();
        takesWhatHoldsNoMore();
        mendsWhatIsNotThere();
        mendsWhatIsNotWorn();
        mendsLeastAndMost();
        undoNone();
        undoEightAtMost();
        undoEachMove();
        undoBesideOtherCalls();
        undoRunsRound();
        ofNumbers();
        ofPlaces();
        ofHolds();
        seenSpots();
        seenOverAll();
        fiveHundredAndTwelveCalls();
        Bench.end(8, 13);
    }

    // ---- promise 8

    private static void putsWhatIsNotThere() {
        Bench.pieceNumber(8, (x, i) -> x.puts(i));
    }

    private static void putsWhatIsOn() {
        for (int i = 0; i < 8; i++) {
            int on = i;
            Bench.refused(8, "NO: it is ON", Bench::eightOn, x -> x.puts(on), NO);
        }
        Bench.refused(8, "NO: it is ON", Bench::rich, x -> x.puts(1), NO);
        PaperDolls x = Bench.rich();
        x.takes(2);
        Bench.due(8, "it is not ON any more", x.puts(2), 3);
    }

    private static void putsUntilItDoesNotHold() {
        for (int kind = 0; kind <= 5; kind++) {
            for (int paper = 1; paper <= 9; paper++) {
                int k = kind;
                int p = paper;
                int most = PUTS[kind][paper - 1];
                PaperDolls x = Bench.made(Bench.PLAIN, k, 0, p);
                for (int n = 0; n < most; n++) {
                    Bench.so(8, "it HOLDS by 1 or more", x.of(0, 6) >= 1);
                    Bench.due(8, "PUT ON", x.puts(0), 1);
                    Bench.due(8, "WORN is one more", x.of(0, 3), n + 1);
                    x.takes(0);
                }
                Bench.so(8, "it HOLDS by 0 or less", x.of(0, 6) <= 0);
                Bench.refused(8, "NO: it can not be", () -> Bench.wear(Bench.made(Bench.PLAIN, k, 0, p), 0, most),
                    y -> y.puts(0), NO);
                Bench.due(8, "MENDED, or not WORN", x.mends(0), most == 0 ? NO : most);
                Bench.due(8, "then it can be, if ever", x.puts(0), most == 0 ? NO : 1);
            }
        }
    }

    private static void putsWhatHoldsByOne() {
        Bench.due(8, "a shirt that HOLDS by 1", Bench.made(0, Bench.SHIRT, 0, 1).puts(0), 1);
        Bench.due(8, "a coat that HOLDS by 1", Bench.made(0, Bench.COAT, 0, 2).puts(0), 1);
        Bench.refused(8, "a coat that HOLDS by 0", () -> Bench.made(0, Bench.COAT, 0, 1), x -> x.puts(0), NO);
        Bench.refused(8, "a cloak that HOLDS by 0", () -> Bench.made(0, Bench.CLOAK, 0, 1), x -> x.puts(0), NO);
        Bench.refused(8, "a suit that HOLDS by 0", () -> Bench.made(0, Bench.SUIT, 0, 1), x -> x.puts(0), NO);
        // Boots of paper 9, WORN 8: 9 + 2 - 2 - 8 is 1; WORN 9: 9 + 2 - 3 - 9 is -1.
        PaperDolls boots = Bench.wear(Bench.made(0, Bench.BOOTS, 0, 9), 0, 8);
        Bench.due(8, "boots that HOLD by 1", boots.of(0, 6), 1);
        Bench.due(8, "boots that HOLD by 1", boots.puts(0), 1);
        boots.takes(0);
        Bench.due(8, "boots that HOLD by -1", boots.of(0, 6), -1);
        Bench.due(8, "boots that HOLD by -1", boots.puts(0), NO);
    }

    private static void putsWhatGoes() {
        for (int k = 0; k <= 5; k++) {
            for (int a = 0; a <= 3; a++) {
                for (int b = 0; b <= 3; b++) {
                    int kind = k;
                    int under = a;
                    int over = b;
                    boolean goes = (Bench.GOES[kind][under] >> over & 1) == 1;
                    String sentence = "child " + kind + ", COLOURS " + under + ", " + over;
                    Bench.Making making = () -> {
                        PaperDolls x = Bench.made(kind, Bench.HAT, under, 9, Bench.BOOTS, over, 9);
                        x.puts(0);
                        return x;
                    };
                    if (goes) {
                        Bench.due(8, sentence, making.make().puts(1), 2);
                    } else {
                        Bench.refused(8, sentence, making, x -> x.puts(1), NO);
                    }
                }
            }
            for (int colour = 0; colour <= 3; colour++) {
                Bench.due(8, "alone it GOES, with itself or not", Bench.made(k, 0, colour, 9).puts(0), 1);
            }
        }
    }

    private static void putsWithEachThatIsOn() {
        // Plain: 2 goes with 1, not with 0.
        Bench.Making making = () -> {
            PaperDolls x = Bench.made(Bench.PLAIN, Bench.SHIRT, 0, 9, Bench.HAT, 1, 9, Bench.BOOTS, 2, 9);
            x.puts(0);
            x.puts(1);
            return x;
        };
        Bench.refused(8, "it does not GO with the lowest", making, x -> x.puts(2), NO);
        PaperDolls x = making.make();
        x.takes(0);
        Bench.due(8, "it GOES with each that is ON", x.puts(2), 2);
        x.takes(1);
        x.puts(1);
        Bench.due(8, "0 does not GO with 2", x.puts(0), NO);
        x.takes(2);
        Bench.due(8, "0 GOES with 1", x.puts(0), 2);
    }

    private static void putsOverAllOthers() {
        PaperDolls x = Bench.eight();
        int[] order = {5, 0, 7, 3, 1, 6, 2, 4};
        for (int place = 0; place < 8; place++) {
            Bench.due(8, "how many are ON", x.puts(order[place]), place + 1);
            Bench.due(8, "ON over all others", x.of(order[place], 4), place);
        }
        for (int place = 0; place < 8; place++) {
            Bench.due(8, "in the order in which they were put on", x.of(order[place], 4), place);
        }
        PaperDolls y = Bench.rich();
        y.takes(1);
        Bench.due(8, "again", y.puts(1), 3);
        Bench.due(8, "over all others again", y.of(1, 4), 2);
        Bench.due(8, "the others came down", y.of(0, 4) * 10 + y.of(2, 4), 1);
    }

    private static void putsChangesThatMuch() {
        PaperDolls x = Bench.rich();
        Bench.due(8, "the shirt", x.puts(4), 4);
        int[] counts = {5, 4, 7, 15, 1, 4, 0, 1, 1, 7, Bench.RICH_TEXT.length()};
        for (int what = 0; what <= 10; what++) {
            Bench.due(8, "one MOVE: count " + what, x.count(what), counts[what]);
        }
        Bench.due(8, "no call was refused by it", x.status(0) + x.status(1) + x.status(2), 2);
    }

    // ---- promise 9

    private static void takesWhatIsNotThere() {
        Bench.pieceNumber(9, (x, i) -> x.takes(i));
    }

    private static void takesWhatIsNotOn() {
        for (int i = 0; i < 8; i++) {
            int off = i;
            Bench.refused(9, "NO: it is not ON", Bench::eight, x -> x.takes(off), NO);
        }
        Bench.refused(9, "NO: TAKEN OFF already", () -> Bench.wear(Bench.eight(), 0, 1), x -> x.takes(0), NO);
        PaperDolls x = Bench.eight();
        x.puts(7);
        Bench.due(9, "the last one: none are ON", x.takes(7), 0);
        x.puts(7);
        x.undo();
        Bench.due(9, "its PUTTING ON undone", x.takes(7), NO);
    }

    private static void takesFromUnder() {
        for (int a = 0; a <= 5; a++) {
            for (int b = 0; b <= 5; b++) {
                int under = a;
                int over = b;
                String sentence = "KIND " + over + " over KIND " + under;
                Bench.Making making = () -> {
                    PaperDolls x = Bench.made(Bench.PLAIN, under, 0, 9, over, 0, 9);
                    x.puts(0);
                    x.puts(1);
                    return x;
                };
                if (FREE_UNDER[under][over]) {
                    Bench.due(9, sentence, making.make().takes(0), 1);
                } else {
                    Bench.refused(9, sentence, making, x -> x.takes(0), NO);
                }
                Bench.due(9, sentence + ": the one over it", making.make().takes(1), 1);
            }
        }
    }

    private static void takesFarFromAbove() {
        Bench.Making making = () -> {
            PaperDolls x = Bench.made(Bench.PLAIN, Bench.SHIRT, 0, 9, Bench.HAT, 0, 9, Bench.BOOTS, 0, 9,
                Bench.COAT, 0, 9);
            for (int i = 0; i < 4; i++) {
                x.puts(i);
            }
            return x;
        };
        Bench.refused(9, "the uppermost COVERS a SPOT of the lowest", making, x -> x.takes(0), NO);
        PaperDolls x = making.make();
        Bench.due(9, "the uppermost", x.takes(3), 3);
        Bench.due(9, "then the lowest", x.takes(0), 2);
        PaperDolls y = Bench.eightOn();
        // shirt, coat, cloak, hat, boots, suit, shirt, hat: the last two alone have nothing over them.
        int[] due = {NO, NO, NO, NO, NO, NO, 7, 6};
        for (int i = 0; i < 8; i++) {
            Bench.due(9, "from eight: " + i, y.takes(i), due[i]);
        }
    }

    private static void takesFromTheMiddle() {
        PaperDolls x = Bench.made(Bench.PLAIN, Bench.SHIRT, 0, 9, Bench.HAT, 0, 9, Bench.BOOTS, 0, 9);
        for (int i = 0; i < 3; i++) {
            x.puts(i);
        }
        Bench.due(9, "how many are ON", x.takes(1), 2);
        Bench.due(9, "it is not ON", x.of(1, 4), NONE);
        Bench.due(9, "the one under it stays", x.of(0, 4), 0);
        Bench.due(9, "the one over it comes down", x.of(2, 4), 1);
        Bench.due(9, "WORN stays", x.of(1, 3), 1);
        Bench.due(9, "a MOVE", x.count(2), 4);
        Bench.due(9, "it may be undone", x.count(9), 4);
        Bench.due(9, "the lowest", x.takes(0), 1);
        Bench.due(9, "the one over it comes down", x.of(2, 4), 0);
    }

    private static void takesWhatHoldsNoMore() {
        PaperDolls x = Bench.made(Bench.PLAIN, Bench.BOOTS, 0, 1);
        Bench.wear(x, 0, 2);
        x.puts(0);
        Bench.due(9, "it HOLDS by -1 when it is ON", x.of(0, 6), -1);
        Bench.due(9, "it is ON still", x.count(1), 1);
        Bench.due(9, "it is SEEN still", x.seen(3), 0);
        Bench.due(9, "TAKEN OFF", x.takes(0), 0);
        Bench.due(9, "PUT ON no more", x.puts(0), NO);
        PaperDolls y = Bench.made(Bench.GAUDY, Bench.SHIRT, 0, 9, Bench.HAT, 3, 9);
        y.puts(0);
        y.puts(1);
        y.child(Bench.WINTRY);
        Bench.due(9, "it need not GO", y.takes(1), 1);
    }

    // ---- promise 10

    private static void mendsWhatIsNotThere() {
        Bench.pieceNumber(10, (x, i) -> x.mends(i));
    }

    private static void mendsWhatIsNotWorn() {
        for (int i = 0; i < 8; i++) {
            int n = i;
            Bench.refused(10, "NO: WORN is 0", Bench::eight, x -> x.mends(n), NO);
        }
        Bench.Making mended = () -> {
            PaperDolls x = Bench.eightOn();
            x.mends(0);
            return x;
        };
        Bench.refused(10, "NO: WORN is 0 again", mended, x -> x.mends(0), NO);
        Bench.due(10, "another is WORN still", mended.make().mends(1), 1);
        PaperDolls x = mended.make();
        x.undo();
        Bench.due(10, "its MENDING undone", x.mends(0), 1);
        PaperDolls y = Bench.eight();
        y.puts(0);
        y.undo();
        Bench.due(10, "its PUTTING ON undone", y.mends(0), NO);
    }

    private static void mendsLeastAndMost() {
        PaperDolls x = Bench.made(Bench.PLAIN, Bench.HAT, 0, 9, Bench.SHIRT, 0, 9);
        x.puts(0);
        x.puts(1);
        Bench.due(10, "WORN 1, and ON", x.mends(0), 1);
        Bench.due(10, "WORN is 0", x.of(0, 3), 0);
        Bench.due(10, "ON as it was", x.of(0, 4) * 10 + x.of(1, 4), 1);
        Bench.due(10, "the other one is WORN still", x.of(1, 3), 1);
        Bench.due(10, "a MOVE", x.count(2), 3);
        Bench.due(10, "it may be undone", x.undo(), 2);
        Bench.due(10, "WORN as it was", x.of(0, 3), 1);
        PaperDolls y = Bench.wear(Bench.made(Bench.PLAIN, Bench.HAT, 0, 9), 0, 33);
        Bench.due(10, "it HOLDS by 0", y.of(0, 6), 0);
        Bench.due(10, "WORN 33, the most that a PIECE comes to", y.mends(0), 33);
        Bench.due(10, "it HOLDS as at first", y.of(0, 6), 11);
        Bench.due(10, "it is not ON by that", y.of(0, 4), NONE);
        PaperDolls z = Bench.made(Bench.PLAIN, Bench.COAT, 0, 1);
        Bench.due(10, "one that never HOLDS is never WORN", z.mends(0), NO);
    }

    // ---- promise 11

    private static void undoNone() {
        Bench.refused(11, "NO: none may be", PaperDolls::new, x -> x.undo(), NO);
        Bench.refused(11, "NO: none may be", Bench::eight, x -> x.undo(), NO);
        Bench.Making told = () -> {
            PaperDolls x = Bench.rich();
            x.child(0);
            return x;
        };
        Bench.refused(11, "behind THE CHILD told none may be", told, x -> x.undo(), NO);
        Bench.Making came = () -> {
            PaperDolls x = Bench.rich();
            x.piece(0, 0, 1);
            return x;
        };
        Bench.refused(11, "behind a PIECE that comes none may be", came, x -> x.undo(), NO);
        Bench.Making begun = () -> {
            PaperDolls x = Bench.rich();
            x.doll(0);
            return x;
        };
        Bench.refused(11, "behind a doll none may be", begun, x -> x.undo(), NO);
        Bench.Making read = () -> {
            PaperDolls x = Bench.rich();
            x.read();
            return x;
        };
        Bench.refused(11, "a doll that is read: nothing to undo", read, x -> x.undo(), NO);
        Bench.Making undone = () -> {
            PaperDolls x = Bench.rich();
            for (int n = 0; n < 6; n++) {
                x.undo();
            }
            return x;
        };
        Bench.refused(11, "all were undone", undone, x -> x.undo(), NO);
        Bench.due(11, "as ahead of the first", undone.make().count(2), 0);
    }

    /** So many times a hat is put on and taken off in turn. */
    private static PaperDolls moved(int moves) {
        PaperDolls x = Bench.made(Bench.PLAIN, Bench.HAT, 0, 9);
        for (int n = 0; n < moves; n++) {
            if (n % 2 == 0) {
                x.puts(0);
            } else {
                x.takes(0);
            }
        }
        return x;
    }

    private static void undoEightAtMost() {
        for (int moves = 0; moves <= 20; moves++) {
            PaperDolls x = moved(moves);
            int most = Math.min(moves, 8);
            Bench.due(11, "8 at most", x.count(9), most);
            for (int n = 1; n <= most; n++) {
                Bench.due(11, "MOVES then", x.undo(), moves - n);
                Bench.due(11, "so many may be undone", x.count(9), most - n);
                Bench.due(11, "ON as ahead of it", x.count(1), (moves - n) % 2);
                Bench.due(11, "WORN as ahead of it", x.of(0, 3), (moves - n + 1) / 2);
            }
            Bench.due(11, "and no more", x.undo(), NO);
            Bench.due(11, "refused", x.status(1), 1);
        }
        for (int moves : new int[] {8, 9, 17}) {
            Bench.Making making = () -> {
                PaperDolls x = moved(moves);
                for (int n = 0; n < 8; n++) {
                    x.undo();
                }
                return x;
            };
            Bench.refused(11, "8 at most, a 9th", making, x -> x.undo(), NO);
        }
    }

    private static void undoEachMove() {
        PaperDolls x = Bench.rich();
        // hat, coat, boots; undone one by one: boots, coat on, mended, coat off, hat, coat.
        int[] on = {2, 1, 1, 2, 1, 0};
        int[] coat = {1, NONE, NONE, 0, 0, NONE};
        int[] hat = {0, 0, 0, 1, NONE, NONE};
        int[] worn = {1, 0, 1, 1, 1, 0};
        for (int n = 0; n < 6; n++) {
            Bench.due(11, "MOVES then", x.undo(), 5 - n);
            Bench.due(11, "how many are ON", x.count(1), on[n]);
            Bench.due(11, "in what order: the coat", x.of(0, 4), coat[n]);
            Bench.due(11, "in what order: the hat", x.of(1, 4), hat[n]);
            Bench.due(11, "WORN of the coat", x.of(0, 3), worn[n]);
            Bench.due(11, "the boots are off", x.of(2, 4), NONE);
            Bench.due(11, "the boots are not WORN", x.of(2, 3), 0);
        }
        Bench.due(11, "NOTES stay", x.count(7), 1);
        Bench.due(11, "MARKS stay", x.count(8), 1);
        Bench.due(11, "THE FRACTION stays", x.part(0) * 10 + x.part(1), 23);
        Bench.due(11, "THE TEXT stays", x.count(10), Bench.RICH_TEXT.length());
        Bench.due(11, "the IMAGE stays", x.from(0), 1);
        Bench.due(11, "with what may be undone", x.undo(), 3);
    }

    private static void undoBesideOtherCalls() {
        PaperDolls x = Bench.rich();
        x.note(3, 3, 0);
        x.mark(0, 1, 0, 0);
        x.forget(0);
        x.type('x');
        x.clear();
        x.luck(2);
        x.evenings(1, 60);
        x.few(0);
        x.two(-1);
        x.read();
        x.image(1);
        x.child(6);
        x.child(-1);
        x.piece(0, 0, 0);
        x.puts(0);
        x.takes(4);
        x.mends(4);
        x.doll(6);
        x.from(2);
        Bench.due(11, "neither what is asked nor what is refused ends it", x.count(9), 6);
        Bench.due(11, "the last MOVE", x.undo(), 5);
        Bench.due(11, "NOTES are not undone", x.count(7), 0);
        Bench.due(11, "MARKS are not undone", x.count(8), 2);
        Bench.due(11, "a MOVE behind it", x.puts(4), 3);
        Bench.due(11, "MOVES", x.count(2), 6);
        Bench.due(11, "may be undone", x.undo(), 5);
        Bench.due(11, "and the one ahead of it", x.undo(), 4);
    }

    private static String worn(PaperDolls x) {
        StringBuilder text = new StringBuilder();
        for (int i = 0; i < 3; i++) {
            text.append(x.of(i, 3)).append(' ').append(x.of(i, 4)).append(' ');
        }
        return text.append(x.count(2)).toString();
    }

    /** Moves and undone moves by turns, so that the eight that are kept go round. */
    private static void undoRunsRound() {
        PaperDolls x = Bench.made(Bench.PLAIN, Bench.HAT, 0, 9, Bench.SHIRT, 0, 9, Bench.BOOTS, 0, 9);
        List<String> past = new ArrayList<>();
        int[] backs = {3, 8, 1, 8};
        for (int round = 0; round < backs.length; round++) {
            for (int n = 0; n < 7; n++) {
                int i = (round + n) % 3;
                past.add(worn(x));
                if (x.of(i, 4) == NONE) {
                    x.puts(i);
                } else {
                    x.takes(i);
                }
            }
            while (past.size() > 8) {
                past.remove(0);
            }
            for (int n = 0; n < backs[round] && !past.isEmpty(); n++) {
                x.undo();
                String was = past.remove(past.size() - 1);
                Bench.so(11, "as ahead of the last MOVE: " + was, was.equals(worn(x)));
            }
            Bench.due(11, "so many may be undone", x.count(9), past.size());
        }
    }

    // ---- promise 12

    private static void ofNumbers() {
        for (int w = 0; w <= 6; w++) {
            int what = w;
            Bench.pieceNumber(12, (x, i) -> x.of(i, what));
        }
        Bench.bounds(12, "what 0 .. 6", Bench::rich, (x, what) -> x.of(0, what), 0, 6);
        Bench.bounds(12, "what 0 .. 6", Bench::eight, (x, what) -> x.of(7, what), 0, 6);
        Bench.refused(12, "both are not as told", Bench::rich, x -> x.of(5, 7), BAD);
        int[] coat = {Bench.COAT, 0, 9, 1, 1, 6, 8};
        int[] suit = {Bench.SUIT, 1, 2, 0, NONE, 14, 2};
        for (int w = 0; w <= 6; w++) {
            int what = w;
            Bench.answered(12, "of the coat " + what, Bench::rich, x -> x.of(0, what), coat[what]);
            Bench.answered(12, "of the suit " + what, Bench::rich, x -> x.of(3, what), suit[what]);
        }
    }

    private static void ofPlaces() {
        for (int i = 0; i < 8; i++) {
            int n = i;
            Bench.answered(12, "NONE: not ON", Bench::eight, x -> x.of(n, 4), NONE);
            Bench.answered(12, "0 the first", Bench::eightOn, x -> x.of(n, 4), n);
        }
        int[] spots = {2, 6, 7, 1, 8, 14, 2, 1};
        for (int i = 0; i < 8; i++) {
            int n = i;
            Bench.answered(12, "SPOTS that it COVERS", Bench::eight, x -> x.of(n, 5), spots[n]);
        }
    }

    private static void ofHolds() {
        // By kind, of paper 9 and of paper 1: how it holds, WORN from 0 on, until it can not be put on.
        int[][] nine = {
            {9, 9, 9, 8, 8, 8, 7, 7, 7, 6, 6, 6, 5, 5, 5, 4, 4, 4, 3, 3, 3, 2, 2, 2, 1, 1, 1, 0},
            {8, 8, 8, 7, 7, 7, 6, 6, 6, 5, 5, 5, 4, 4, 4, 3, 3, 3, 2, 2, 2, 1, 1, 1, 0},
            {8, 8, 8, 7, 7, 7, 6, 6, 6, 5, 5, 5, 4, 4, 4, 3, 3, 3, 2, 2, 2, 1, 1, 1, 0},
            {11, 11, 11, 10, 10, 10, 9, 9, 9, 8, 8, 8, 7, 7, 7, 6, 6, 6, 5, 5, 5, 4, 4, 4, 3, 3, 3, 2, 2, 2, 1, 1, 1, 0},
            {11, 10, 9, 7, 6, 5, 3, 2, 1, -1},
            {16, 16, 16, 14, 14, 14, 12, 12, 12, 10, 10, 10, 8, 8, 8, 6, 6, 6, 4, 4, 4, 2, 2, 2, 0},
        };
        int[][] one = {{1, 1, 1, 0}, {0}, {0}, {3, 3, 3, 2, 2, 2, 1, 1, 1, 0}, {3, 2, 1, -1}, {0}};
        for (int kind = 0; kind <= 5; kind++) {
            holdsBy(Bench.made(Bench.PLAIN, kind, 0, 9), nine[kind]);
            holdsBy(Bench.made(Bench.PLAIN, kind, 0, 1), one[kind]);
        }
    }

    private static void holdsBy(PaperDolls x, int[] due) {
        for (int worn = 0; worn < due.length; worn++) {
            Bench.due(12, "WORN", x.of(0, 3), worn);
            Bench.due(12, "how it HOLDS, WORN " + worn, x.of(0, 6), due[worn]);
            Bench.wear(x, 0, 1);
        }
        Bench.due(12, "WORN no more than that", x.of(0, 3), due.length - 1);
    }

    // ---- promise 13

    private static void seenSpots() {
        Bench.bounds(13, "SPOTS 0 .. 3", Bench::rich, (x, spot) -> x.seen(spot), 0, 3);
        Bench.bounds(13, "SPOTS 0 .. 3", PaperDolls::new, (x, spot) -> x.seen(spot), 0, 3);
        Bench.bounds(13, "SPOTS 0 .. 3", Bench::eightOn, (x, spot) -> x.seen(spot), 0, 3);
        int[] covers = {2, 6, 7, 1, 8, 14};
        for (int k = 0; k <= 5; k++) {
            for (int s = 0; s <= 3; s++) {
                int kind = k;
                int spot = s;
                Bench.answered(13, "not ON: NONE", () -> Bench.made(0, kind, 0, 9), x -> x.seen(spot), NONE);
                Bench.Making on = () -> {
                    PaperDolls x = Bench.made(0, kind, 0, 9);
                    x.puts(0);
                    return x;
                };
                Bench.answered(13, "KIND " + kind + " at SPOT " + spot, on, x -> x.seen(spot),
                    (covers[kind] >> spot & 1) == 1 ? 0 : NONE);
            }
        }
    }

    private static void seenOverAll() {
        // shirt, coat, cloak, hat, boots, suit, shirt, hat, from the lowest up.
        int[] eight = {7, 6, 5, 5};
        for (int s = 0; s <= 3; s++) {
            int spot = s;
            Bench.answered(13, "ON over all that COVER it", Bench::eightOn, x -> x.seen(spot), eight[spot]);
        }
        PaperDolls x = Bench.eightOn();
        int[][] behind = {{3, 6, 5, 5}, {3, 5, 5, 5}, {3, 2, 2, 4}, {3, 2, 2, NONE}, {2, 2, 2, NONE},
            {NONE, 1, 1, NONE}, {NONE, 0, NONE, NONE}, {NONE, NONE, NONE, NONE}};
        for (int n = 0; n < 8; n++) {
            x.takes(7 - n);
            for (int spot = 0; spot <= 3; spot++) {
                Bench.due(13, "what was under it, " + n + " at SPOT " + spot, x.seen(spot), behind[n][spot]);
            }
        }
        x.undo();
        Bench.due(13, "the shirt back ON", x.seen(1), 0);
    }

    /** "An object is used for at most 512 calls": the last of them is answered as the first. */
    private static void fiveHundredAndTwelveCalls() {
        PaperDolls x = new PaperDolls();
        x.piece(Bench.HAT, 0, 9);
        for (int n = 0; n < 510; n++) {
            int answer = n % 3 == 0 ? x.puts(0) : n % 3 == 1 ? x.takes(0) : x.mends(0);
            Bench.due(8 + n % 3, "move " + n, answer, n % 3 == 1 ? 0 : 1);
        }
        Bench.due(11, "the 512th call", x.undo(), 509);
    }
}
