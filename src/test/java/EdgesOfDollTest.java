/** The boundary cases of promises 1 to 7, sentence by sentence: a doll. */
public final class EdgesOfDollTest {
    private static final int NONE = Bench.NONE;
    private static final int BAD = Bench.BAD;
    private static final int NO = Bench.NO;
    private static final int FULL = Bench.FULL;

    /** 103 bytes, 9 items. */
    private static final String EIGHT_PIECES = "doll 0;" + Bench.times(8, "piece 0 0 9;");

    public static void main(String[] args) {
        newObjectHasNothing();
        newObjectAnswersWhereThereIsNothing();
        objectsAreApart();
        dollKinds();
        dollLeavesAllAsAtFirst();
        dollAfterEight();
        childKinds();
        childLeavesAllButUndo();
        childUnderWhatIsOn();
        pieceNumbers();
        pieceFull();
        pieceAndUndo();
        typeBytes();
        typeFull();
        clearCases();
        readWordsThatAreNone();
        readDollOnceAndFirst();
        readNinthPiece();
        readFigures();
        readNumbersNotAsTold();
        readPiecesNotThere();
        readMovesThatCanNotBe();
        readBytesThatBeginNone();
        readTokensInWrongPlaces();
        readEndsTooEarly();
        readBlanks();
        readFullText();
        readOldBytes();
        readTakesThePlaceOfAll();
        readManyMoves();
        Bench.end(1, 7);
    }

    // ---- promise 1

    private static void newObjectHasNothing() {
        PaperDolls x = new PaperDolls();
        for (int what = 0; what <= 10; what++) {
            Bench.due(1, "as told; no PIECES: count " + what, x.count(what), 0);
        }
        for (int what = 0; what <= 2; what++) {
            Bench.due(1, "STATUS " + what, x.status(what), 0);
        }
        Bench.due(1, "THE FRACTION is 0 by 1 at first", x.part(0), 0);
        Bench.due(1, "THE FRACTION is 0 by 1 at first", x.part(1), 1);
        Bench.due(1, "THE CHILD has KIND 0 at first", x.child(0), 0);
        Bench.due(1, "THE TEXT is empty", x.clear(), 0);
        Bench.due(1, "no NOTES", x.forget(0), 0);
        Bench.due(1, "no MARKS", x.forget(1), 0);
        Bench.due(1, "no PIECES", x.doll(0), 0);
    }

    private static void newObjectAnswersWhereThereIsNothing() {
        for (int s = 0; s <= 3; s++) {
            int spot = s;
            Bench.answered(1, "nothing is seen", PaperDolls::new, x -> x.seen(spot), NONE);
        }
        Bench.answered(1, "CAN", PaperDolls::new, x -> x.can(), 0);
        Bench.answered(1, "OFF", PaperDolls::new, x -> x.off(), 0);
        Bench.answered(1, "OUTFITS", PaperDolls::new, x -> x.outfits(-1), 0);
        Bench.answered(1, "OUTFITS", PaperDolls::new, x -> x.outfits(0), -5);
        Bench.answered(1, "LEAN", PaperDolls::new, x -> x.lean(0), NONE);
        Bench.answered(1, "LEAN", PaperDolls::new, x -> x.lean(1), NONE);
        Bench.answered(1, "DAYS", PaperDolls::new, x -> x.days(), 0);
        Bench.answered(1, "SPARED", PaperDolls::new, x -> x.spared(), 0);
        Bench.answered(1, "FEW", PaperDolls::new, x -> x.few(-1), -6);
        Bench.answered(1, "FEW", PaperDolls::new, x -> x.few(0), -6);
        Bench.answered(1, "IS", PaperDolls::new, x -> x.is(), 63);
        Bench.answered(1, "LOOK", PaperDolls::new, x -> x.look(), 1);
        Bench.answered(1, "TWO", PaperDolls::new, x -> x.two(-1), 0);
        Bench.answered(1, "TWO", PaperDolls::new, x -> x.two(0), -5);
        Bench.answered(1, "EVENINGS", PaperDolls::new, x -> x.evenings(0, 60), 0);
        Bench.answered(1, "an empty TEXT", PaperDolls::new, x -> x.read(), -200);
        for (int n = 0; n <= 4; n++) {
            int drawn = n;
            Bench.answered(1, "LUCK leaves 0 by 1", PaperDolls::new, x -> x.luck(drawn), 1);
        }
        Bench.refused(1, "nothing to undo", PaperDolls::new, x -> x.undo(), NO);
        Bench.refused(1, "no IMAGE 0", PaperDolls::new, x -> x.from(0), NO);
        Bench.refused(1, "no IMAGE 1", PaperDolls::new, x -> x.from(1), NO);
        Bench.refused(1, "no PIECE 0", PaperDolls::new, x -> x.of(0, 0), BAD);
    }

    private static void objectsAreApart() {
        PaperDolls other = new PaperDolls();
        long was = other.digest();
        PaperDolls x = Bench.rich();
        x.image(1);
        Bench.due(1, "another object's calls change nothing", other.digest(), was);
        Bench.due(1, "another object's IMAGE", other.from(0), NO);
        Bench.due(1, "another object's BAD", other.status(0), 0);
        Bench.due(1, "a new object behind it", new PaperDolls().digest(), was);
    }

    // ---- promise 2

    private static void dollKinds() {
        Bench.bounds(2, "KINDS of CHILDREN 0 .. 5", Bench::rich, (x, kind) -> x.doll(kind), 0, 5);
        Bench.bounds(2, "KINDS of CHILDREN 0 .. 5", PaperDolls::new, (x, kind) -> x.doll(kind), 0, 5);
    }

    private static void dollLeavesAllAsAtFirst() {
        for (int kind = 0; kind <= 5; kind++) {
            PaperDolls x = Bench.rich();
            Bench.due(2, "how many PIECES there were", x.doll(kind), 5);
            int[] counts = {0, 0, 0, 0, 0, 0, kind, 0, 0, 0, Bench.RICH_TEXT.length()};
            for (int what = 0; what <= 10; what++) {
                Bench.due(2, "all else as at first: count " + what, x.count(what), counts[what]);
            }
            Bench.due(2, "STATUS stays: BAD", x.status(0), 1);
            Bench.due(2, "STATUS stays: NO", x.status(1), 1);
            Bench.due(2, "STATUS stays: FULL", x.status(2), 0);
            Bench.due(2, "THE FRACTION stays", x.part(0), 2);
            Bench.due(2, "THE FRACTION stays", x.part(1), 3);
            Bench.due(2, "nothing to undo", x.undo(), NO);
            Bench.due(2, "all KINDS fit, no NOTES", x.is(), 63);
            Bench.due(2, "a PIECE is 0 again", x.piece(Bench.COAT, 3, 9), 0);
            Bench.due(2, "it is not WORN", x.of(0, 3), 0);
            Bench.due(2, "it is not ON", x.of(0, 4), NONE);
            Bench.due(2, "no MARKS of it", x.kinds(0), 63);
            Bench.due(2, "IMAGE 1 stays not kept", x.from(1), NO);
            Bench.due(2, "IMAGE 0 stays", x.from(0), 1);
            Bench.due(2, "as it was kept: MOVES", x.count(2), 4);
            Bench.due(2, "as it was kept: THE CHILD", x.count(6), 0);
            Bench.due(2, "as it was kept: undo", x.undo(), 3);
            Bench.due(2, "THE TEXT stays as it was", x.read(), 3);
        }
    }

    private static void dollAfterEight() {
        PaperDolls x = Bench.eightOn();
        Bench.due(2, "8 PIECES there were", x.doll(5), 8);
        Bench.due(2, "none there were", x.doll(0), 0);
        for (int i = 0; i < 8; i++) {
            Bench.due(2, "8 may come again", x.piece(3, 0, 1), i);
            Bench.due(2, "WORN 0 at first", x.of(i, 3), 0);
            Bench.due(2, "not ON at first", x.of(i, 4), NONE);
        }
        Bench.due(2, "a 9th may not", x.piece(3, 0, 1), FULL);
    }

    // ---- promise 3

    private static void childKinds() {
        Bench.bounds(3, "KINDS of CHILDREN 0 .. 5", Bench::rich, (x, kind) -> x.child(kind), 0, 5);
        Bench.bounds(3, "KINDS of CHILDREN 0 .. 5", PaperDolls::new, (x, kind) -> x.child(kind), 0, 5);
        for (int was = 0; was <= 5; was++) {
            for (int kind = 0; kind <= 5; kind++) {
                PaperDolls x = Bench.made(was);
                Bench.due(3, "what it was", x.child(kind), was);
                Bench.due(3, "what it is", x.count(6), kind);
            }
        }
    }

    private static void childLeavesAllButUndo() {
        for (int kind = 0; kind <= 5; kind++) {
            PaperDolls x = Bench.rich();
            x.child(kind);
            int[] counts = {5, 3, 6, 15, 1, 3, kind, 1, 1, 0, Bench.RICH_TEXT.length()};
            for (int what = 0; what <= 10; what++) {
                Bench.due(3, "behind THE CHILD told: count " + what, x.count(what), counts[what]);
            }
            Bench.due(3, "behind THE CHILD told none may be undone", x.undo(), NO);
            Bench.due(3, "ON in the order as it was", x.of(1, 4) * 100 + x.of(0, 4) * 10 + x.of(2, 4), 12);
            Bench.due(3, "THE FRACTION stays", x.part(0) * 10 + x.part(1), 23);
            Bench.due(3, "a MOVE behind it", x.mends(0), 1);
            Bench.due(3, "may be undone", x.undo(), 6);
            Bench.due(3, "and no more", x.undo(), NO);
            Bench.due(3, "the IMAGE stays", x.from(0), 1);
            Bench.due(3, "with its own CHILD", x.count(6), 0);
            Bench.due(3, "with what may be undone there", x.count(9), 4);
        }
    }

    private static void childUnderWhatIsOn() {
        PaperDolls x = Bench.made(Bench.GAUDY, Bench.SHIRT, 0, 9, Bench.HAT, 3, 9, Bench.BOOTS, 3, 9);
        x.puts(0);
        x.puts(1);
        x.child(Bench.STRICT);
        Bench.due(3, "what does not GO now stays ON", x.count(1), 2);
        Bench.due(3, "nothing GOES with both", x.can(), 0);
        Bench.due(3, "both can be TAKEN OFF", x.off(), 3);
        Bench.due(3, "TAKEN OFF", x.takes(0), 1);
        Bench.due(3, "the boots GO with the hat alone", x.can(), 4);
    }

    // ---- promise 4

    private static void pieceNumbers() {
        Bench.bounds(4, "KINDS of PIECES 0 .. 5", PaperDolls::new, (x, kind) -> x.piece(kind, 0, 1), 0, 5);
        Bench.bounds(4, "COLOUR 0 .. 3", PaperDolls::new, (x, colour) -> x.piece(5, colour, 9), 0, 3);
        Bench.bounds(4, "PAPER 1 .. 9", PaperDolls::new, (x, paper) -> x.piece(0, 3, paper), 1, 9);
        Bench.bounds(4, "KINDS of PIECES 0 .. 5", Bench::rich, (x, kind) -> x.piece(kind, 3, 9), 0, 5);
        Bench.bounds(4, "COLOUR 0 .. 3", Bench::rich, (x, colour) -> x.piece(0, colour, 1), 0, 3);
        Bench.bounds(4, "PAPER 1 .. 9", Bench::rich, (x, paper) -> x.piece(5, 0, paper), 1, 9);
        for (int kind = 0; kind <= 5; kind++) {
            for (int colour = 0; colour <= 3; colour++) {
                for (int paper = 1; paper <= 9; paper++) {
                    PaperDolls x = new PaperDolls();
                    Bench.due(4, "its number", x.piece(kind, colour, paper), 0);
                    Bench.due(4, "its KIND", x.of(0, 0), kind);
                    Bench.due(4, "its COLOUR", x.of(0, 1), colour);
                    Bench.due(4, "its PAPER", x.of(0, 2), paper);
                    Bench.due(4, "WORN 0 at first", x.of(0, 3), 0);
                    Bench.due(4, "not ON at first", x.of(0, 4), NONE);
                }
            }
        }
    }

    private static void pieceFull() {
        PaperDolls x = new PaperDolls();
        for (int i = 0; i < 8; i++) {
            Bench.due(4, "PIECES 0 .. 7, as they come", x.piece(i % 6, i % 4, i + 1), i);
            Bench.due(4, "so many PIECES", x.count(0), i + 1);
        }
        for (int i = 0; i < 8; i++) {
            Bench.due(4, "each keeps its KIND", x.of(i, 0), i % 6);
            Bench.due(4, "each keeps its COLOUR", x.of(i, 1), i % 4);
            Bench.due(4, "each keeps its PAPER", x.of(i, 2), i + 1);
        }
        Bench.refused(4, "FULL: 8", Bench::eight, y -> y.piece(0, 0, 1), FULL);
        Bench.refused(4, "FULL: 8", Bench::eightOn, y -> y.piece(5, 3, 9), FULL);
        Bench.refused(4, "BAD ahead of FULL", Bench::eight, y -> y.piece(6, 0, 1), BAD);
        Bench.refused(4, "BAD ahead of FULL", Bench::eight, y -> y.piece(-1, 0, 1), BAD);
        Bench.refused(4, "BAD ahead of FULL", Bench::eight, y -> y.piece(0, 4, 1), BAD);
        Bench.refused(4, "BAD ahead of FULL", Bench::eight, y -> y.piece(0, -1, 1), BAD);
        Bench.refused(4, "BAD ahead of FULL", Bench::eight, y -> y.piece(0, 0, 0), BAD);
        Bench.refused(4, "BAD ahead of FULL", Bench::eight, y -> y.piece(0, 0, 10), BAD);
        Bench.due(4, "8 that were read: FULL", readEight().piece(0, 0, 1), FULL);
    }

    private static PaperDolls readEight() {
        PaperDolls x = new PaperDolls();
        Bench.read(x, EIGHT_PIECES);
        return x;
    }

    private static void pieceAndUndo() {
        PaperDolls x = Bench.rich();
        Bench.due(4, "a sixth", x.piece(0, 0, 1), 5);
        Bench.due(4, "behind a PIECE that comes none may be undone", x.count(9), 0);
        Bench.due(4, "behind a PIECE that comes none may be undone", x.undo(), NO);
        Bench.due(4, "MOVES stay", x.count(2), 6);
        Bench.due(4, "what is ON stays", x.count(1), 3);
        Bench.due(4, "WORN stays", x.count(5), 3);
        Bench.due(4, "NOTES stay", x.count(7), 1);
        Bench.due(4, "MARKS stay", x.count(8), 1);
        Bench.due(4, "a MOVE behind it", x.puts(5), 4);
        Bench.due(4, "may be undone", x.undo(), 6);
        Bench.due(4, "the PIECE is there still", x.count(0), 6);
    }

    // ---- promise 5

    private static void typeBytes() {
        Bench.bounds(5, "a byte 0 .. 127", PaperDolls::new, (x, c) -> x.type(c), 0, 127);
        Bench.bounds(5, "a byte 0 .. 127", Bench::rich, (x, c) -> x.type(c), 0, 127);
        PaperDolls x = new PaperDolls();
        for (int c = 0; c <= 127; c++) {
            Bench.due(5, "each byte comes behind THE TEXT", x.type(c), c + 1);
        }
        Bench.due(5, "so many", x.count(10), 128);
        Bench.due(5, "none was BAD", x.status(0), 0);
    }

    private static PaperDolls fullText() {
        return Bench.typed(new PaperDolls(), "doll 5" + Bench.times(143, " ") + ";");
    }

    private static void typeFull() {
        Bench.due(5, "150 bytes", fullText().count(10), 150);
        Bench.refused(5, "150 bytes at most: FULL", EdgesOfDollTest::fullText, x -> x.type('a'), FULL);
        Bench.refused(5, "150 bytes at most: FULL", EdgesOfDollTest::fullText, x -> x.type(0), FULL);
        Bench.refused(5, "150 bytes at most: FULL", EdgesOfDollTest::fullText, x -> x.type(127), FULL);
        Bench.refused(5, "BAD ahead of FULL", EdgesOfDollTest::fullText, x -> x.type(128), BAD);
        Bench.refused(5, "BAD ahead of FULL", EdgesOfDollTest::fullText, x -> x.type(-1), BAD);
        PaperDolls x = Bench.typed(new PaperDolls(), Bench.times(149, " "));
        Bench.due(5, "149 bytes: one more", x.type(';'), 150);
        Bench.due(5, "and no more", x.type(';'), FULL);
        Bench.due(5, "a FULL TEXT is emptied", x.clear(), 150);
        Bench.due(5, "and takes bytes again", x.type('d'), 1);
    }

    // ---- promise 6

    private static void clearCases() {
        Bench.answered(6, "an empty TEXT had 0", PaperDolls::new, x -> x.clear(), 0);
        PaperDolls x = fullText();
        x.type('x');
        Bench.due(6, "a FULL one had 150", x.clear(), 150);
        Bench.due(6, "THE TEXT is empty", x.count(10), 0);
        Bench.due(6, "an empty one is read so", x.read(), -200);
        Bench.due(6, "again", x.clear(), 0);
        PaperDolls y = Bench.rich();
        Bench.due(6, "how many it had", y.clear(), Bench.RICH_TEXT.length());
        int[] counts = {5, 3, 6, 15, 1, 3, 0, 1, 1, 6, 0};
        for (int what = 0; what <= 10; what++) {
            Bench.due(6, "all else stays: count " + what, y.count(what), counts[what]);
        }
        Bench.due(6, "what may be undone stays", y.undo(), 5);
        Bench.due(6, "THE FRACTION stays", y.part(0) * 10 + y.part(1), 23);
        Bench.due(6, "no call was refused by it", y.status(0) + y.status(1) + y.status(2), 2);
    }

    // ---- promise 7

    /** -200 less the place; all stays, STATUS too. */
    private static void fault(String sentence, String text, int place) {
        Bench.answered(7, sentence + " \"" + text + "\"", () -> Bench.typed(Bench.rich(), text), x -> x.read(),
            -200 - place);
    }

    private static void items(String sentence, String text, int items) {
        Bench.due(7, sentence + " \"" + text + "\"", Bench.read(new PaperDolls(), text), items);
        Bench.due(7, sentence + " \"" + text + "\", in place of another", Bench.read(Bench.rich(), text), items);
    }

    private static void readWordsThatAreNone() {
        String[] first = {"d", "do", "dol", "dolls", "foll", "dool", "dolk", "xdoll", "dolldoll", "z"};
        for (String word : first) {
            fault("a word that is none", word + " 0;", 0);
            fault("a word that is none", "  " + word + " 0;", 2);
        }
        String[] later = {"p", "piec", "pieces", "qiece", "piecf", "o", "of", "onn", "om", "pn", "offf", "ofg", "ogf",
            "m", "men", "mends", "nend", "menc", "a", "z", "onoff"};
        for (String word : later) {
            fault("a word that is none", "doll 0;" + word + " 0 0 1;", 7);
        }
        fault("a word that is none, at the end", "doll 0;piece 0 0 1;onn", 19);
        fault("letters a .. z alone", "Doll 0;", 0);
        fault("letters a .. z alone", "dolL 0;", 0);
        fault("letters a .. z alone", "doll 0;On 0;", 7);
    }

    private static void readDollOnceAndFirst() {
        fault("doll again", "doll 0;doll 0;", 7);
        fault("doll again", "doll 0; doll 5;", 8);
        fault("doll again", "doll 0;piece 0 0 9;on 0;doll 1;", 24);
        fault("doll again, at the end", "doll 0;doll", 7);
        fault("anything ahead of it: an ITEM", "piece 0 0 9;doll 0;", 0);
        fault("anything ahead of it: an ITEM", "on 0;doll 0;", 0);
        fault("anything ahead of it: an ITEM", "off 0;doll 0;", 0);
        fault("anything ahead of it: an ITEM", "mend 0;doll 0;", 0);
        fault("anything ahead of it: an ITEM", " piece 0 0 9;", 1);
        fault("anything ahead of it: a number", "0 doll 0;", 0);
        fault("anything ahead of it: ;", ";doll 0;", 0);
        fault("anything ahead of it: ;", ";", 0);
        fault("anything ahead of it: a byte that begins none", "-doll 0;", 0);
        fault("anything ahead of it: three figures", "   000 doll 0;", 3);
        for (int kind = 0; kind <= 5; kind++) {
            PaperDolls x = new PaperDolls();
            Bench.due(7, "doll KIND", Bench.read(x, "doll " + kind + ";"), 1);
            Bench.due(7, "KIND of THE CHILD", x.count(6), kind);
        }
    }

    private static void readNinthPiece() {
        items("8 pieces", EIGHT_PIECES, 9);
        fault("a 9th piece at its word", EIGHT_PIECES + "piece 0 0 9;", 103);
        fault("a 9th piece at its word", EIGHT_PIECES + "piece 9 9 0;", 103);
        fault("a 9th piece at its word", EIGHT_PIECES + "piece x", 103);
        fault("a 9th piece at its word", EIGHT_PIECES + "  piece", 105);
        fault("no 9th piece, but its PIECE", EIGHT_PIECES + "on 8;", 106);
        fault("a 9th piece behind MOVES", EIGHT_PIECES + "on 0;mend 0;piece 0 0 9;", 115);
        items("the 8th is there", EIGHT_PIECES + "on 7;mend 7;off 7;", 12);
        items("the 8th behind MOVES", "doll 0;" + Bench.times(7, "piece 0 0 9;") + "on 0;piece 0 0 9;on 7;", 11);
    }

    private static void readFigures() {
        fault("three figures", "doll 000;", 5);
        fault("three figures", "doll 001;", 5);
        fault("three figures", "doll 100;", 5);
        fault("more figures", "doll 0000;", 5);
        fault("more figures than a number holds", "doll 4294967296;", 5);
        fault("more figures than a number holds", "doll 18446744073709551616;", 5);
        fault("more figures than a number holds", "doll 340282366920938463463374607431768211456;", 5);
        fault("three figures", "doll 0;piece 000 0 9;", 13);
        fault("three figures", "doll 0;piece 0 000 9;", 15);
        fault("three figures", "doll 0;piece 0 0 009;", 17);
        fault("three figures", "doll 0;piece 0 0 9;on 000;", 22);
        fault("three figures", "doll 0;piece 0 0 9;on 0;off 000;", 28);
        fault("three figures", "doll 0;piece 0 0 9;on 0;mend 000;", 29);
        fault("three figures where no number stands", "doll 0 000;", 7);
        fault("three figures where no number stands", "doll 0;000", 7);
        fault("three figures at the end", "doll 0;piece 0 0 9;on 000", 22);
        items("one figure", "doll 0;piece 5 3 9;on 0;off 0;mend 0;", 5);
        items("two figures", "doll 00;piece 05 03 09;on 00;off 00;mend 00;", 5);
    }

    private static void readNumbersNotAsTold() {
        items("KIND of THE CHILD, the most", "doll 5;", 1);
        fault("KIND of THE CHILD, above", "doll 6;", 5);
        fault("KIND of THE CHILD, above", "doll 9;", 5);
        fault("KIND of THE CHILD, above", "doll 10;", 5);
        fault("KIND of THE CHILD, above", "doll 99;", 5);
        fault("KIND of THE CHILD, below", "doll -1;", 5);
        items("the least", "doll 0;piece 0 0 1;", 2);
        items("the most", "doll 0;piece 5 3 9;", 2);
        fault("KIND, above", "doll 0;piece 6 0 1;", 13);
        fault("KIND, above", "doll 0;piece 10 0 1;", 13);
        fault("COLOUR, above", "doll 0;piece 5 4 1;", 15);
        fault("COLOUR, above", "doll 0;piece 5 10 1;", 15);
        fault("PAPER, below", "doll 0;piece 5 3 0;", 17);
        fault("PAPER, below", "doll 0;piece 5 3 00;", 17);
        fault("PAPER, above", "doll 0;piece 5 3 10;", 17);
        fault("PAPER, above", "doll 0;piece 5 3 99;", 17);
        fault("the first of two", "doll 0;piece 6 4 0;", 13);
        fault("the first of two", "doll 0;piece 0 4 0;", 15);
        PaperDolls x = new PaperDolls();
        Bench.read(x, "doll 0;piece 5 3 9;piece 0 0 1;");
        int[] most = {5, 3, 9, 0, Bench.NONE, 14, 16};
        int[] least = {0, 0, 1, 0, Bench.NONE, 2, 1};
        for (int what = 0; what <= 6; what++) {
            Bench.due(7, "the most: of " + what, x.of(0, what), most[what]);
            Bench.due(7, "the least: of " + what, x.of(1, what), least[what]);
        }
    }

    private static void readPiecesNotThere() {
        String[] moves = {"on", "off", "mend"};
        for (String move : moves) {
            fault("no PIECE is there yet", "doll 0;" + move + " 0;", 8 + move.length());
            fault("a PIECE that is not there yet", "doll 0;piece 0 0 9;" + move + " 1;", 20 + move.length());
            fault("a PIECE that is not there yet", "doll 0;piece 0 0 9;" + move + " 99;", 20 + move.length());
            fault("a PIECE that is not there yet", "doll 0;piece 0 0 9;" + move + " 1;piece 0 0 9;", 20 + move.length());
            fault("PIECES of the doll ahead are not there", "doll 0;piece 0 0 9;" + move + " 4;", 20 + move.length());
            fault("no PIECE 8", EIGHT_PIECES + move + " 8;", 104 + move.length());
        }
        items("it is there by then", "doll 0;piece 0 0 9;on 0;piece 0 0 9;on 1;", 5);
    }

    private static void readMovesThatCanNotBe() {
        fault("can not be put ON: it is ON", "doll 0;piece 0 0 9;on 0;on 0;", 27);
        fault("can not be put ON: it is ON", "doll 0;piece 0 0 9;on 0;on 0", 27);
        fault("can not be put ON: it HOLDS by 0", "doll 0;piece 1 0 1;on 0;", 22);
        fault("can not be put ON: it HOLDS by 0", "doll 0;piece 5 0 1;on 0;", 22);
        items("it HOLDS by 1", "doll 0;piece 1 0 2;on 0;", 3);
        items("it HOLDS by 2", "doll 0;piece 5 0 2;on 0;", 3);
        String worn = "doll 0;piece 0 0 1;on 0;off 0;on 0;off 0;on 0;";
        items("WORN 2, HOLDS by 1", worn, 7);
        fault("can not be put ON: WORN 3, HOLDS by 0", worn + "off 0;on 0;", 55);
        items("mended", worn + "off 0;mend 0;on 0;", 10);
        fault("can not be put ON: does not GO", "doll 0;piece 0 0 9;piece 3 2 9;on 0;on 1;", 39);
        items("GOES", "doll 0;piece 0 0 9;piece 3 1 9;on 0;on 1;", 5);
        fault("the doll's own CHILD, not the one ahead", "doll 1;piece 0 0 9;piece 3 1 9;on 0;on 1;", 39);
        fault("does not GO with the lowest", "doll 0;piece 0 0 9;piece 3 1 9;piece 4 2 9;on 0;on 1;on 2;", 56);
        items("it goes when that is off", "doll 0;piece 0 0 9;piece 3 1 9;piece 4 2 9;on 0;on 1;off 0;on 2;", 8);
        fault("can not be taken OFF: not ON", "doll 0;piece 0 0 9;off 0;", 23);
        fault("can not be taken OFF: not ON again", "doll 0;piece 0 0 9;on 0;off 0;off 0;", 34);
        fault("can not be taken OFF: one is over it", "doll 0;piece 0 0 9;piece 1 0 9;on 0;on 1;off 0;", 45);
        items("one is under it", "doll 0;piece 0 0 9;piece 1 0 9;on 0;on 1;off 1;off 0;", 7);
        items("nothing in common", "doll 0;piece 0 0 9;piece 3 0 9;on 0;on 1;off 0;", 6);
        fault("is not WORN", "doll 0;piece 0 0 9;mend 0;", 24);
        fault("is not WORN again", "doll 0;piece 0 0 9;on 0;mend 0;mend 0;", 36);
        fault("another is WORN", "doll 0;piece 0 0 9;piece 0 0 9;on 0;mend 1;", 41);
        items("WORN, and ON", "doll 0;piece 0 0 9;on 0;mend 0;", 4);
        items("WORN, not ON", "doll 0;piece 0 0 9;on 0;off 0;mend 0;", 5);
    }

    private static void readBytesThatBeginNone() {
        for (int c = 0; c <= 127; c++) {
            boolean begins = c == ' ' || c == ';' || c >= '0' && c <= '9' || c >= 'a' && c <= 'z';
            if (!begins) {
                char sign = (char) c;
                fault("byte " + c + " begins none", sign + "doll 0;", 0);
                fault("byte " + c + " begins none", "doll " + sign + "0;", 5);
                fault("byte " + c + " begins none", "doll 0" + sign + ";", 6);
                fault("byte " + c + " begins none", "doll 0;" + sign, 7);
            }
        }
        fault("it ends the word", "do-ll 0;", 0);
        fault("behind the word", "doll-0;", 4);
        fault("behind the number", "doll 0.5;", 6);
        fault("behind the last ITEM", "doll 0; .", 8);
    }

    private static void readTokensInWrongPlaces() {
        fault("; for a number", "doll;", 4);
        fault("; for a number", "doll 0;piece 0;", 14);
        fault("; for a number", "doll 0;piece 0 0;", 16);
        fault("; for a number", "doll 0;piece 0 0 9;on;", 21);
        fault("; for a number", "doll 0;piece 0 0 9;on 0;off;", 27);
        fault("; for a number", "doll 0;piece 0 0 9;on 0;mend;", 28);
        fault("; for a word", "doll 0;;", 7);
        fault("a word for a number", "doll doll;", 5);
        fault("a word for a number", "doll 0;piece piece 0 9;", 13);
        fault("a word for a number", "doll 0;piece 0 0 9;on on;", 22);
        fault("a word for ;", "doll 0 piece 0 0 9;", 7);
        fault("a number for ;", "doll 0 0;", 7);
        fault("a number for ;", "doll 0;piece 0 0 9 9;", 19);
        fault("a number for ;", "doll 0;piece 0 0 9;on 0 0;", 24);
        fault("a number for a word", "doll 0;0;", 7);
        fault("two blank-parted figures are two numbers", "doll 0 5;", 7);
    }

    private static void readEndsTooEarly() {
        String whole = "doll 0;piece 5 3 9;on 0;off 0;mend 0;";
        // By length: a place, or an answer below 0 for so many ITEMS.
        int[] due = {0, 0, 0, 0, 4, 5, 6, -1, 7, 7, 7, 7, 12, 13, 14, 15, 16, 17, 18, -2, 19, 21, 22, 23, -3,
            24, 24, 27, 28, 29, -4, 30, 30, 30, 34, 35, 36, -5};
        for (int length = 0; length <= whole.length(); length++) {
            String text = whole.substring(0, length);
            if (due[length] >= 0) {
                fault("it ends too early", text, due[length]);
            } else {
                items("it does not end too early", text, -due[length]);
            }
        }
    }

    private static void readBlanks() {
        items("blanks between", "  doll   0  ;  piece  5   3  9  ;  on  0  ;  ", 3);
        fault("blanks alone", " ", 1);
        fault("blanks alone", Bench.times(150, " "), 150);
        fault("blanks at the end, too early", "doll   ", 7);
        fault("blanks at the end, too early", "doll 0   ", 9);
        fault("blanks at the end, too early", "doll 0;on  ", 11);
        fault("behind blanks", "doll 0;   x", 10);
        fault("a blank inside a word", "do ll 0;", 0);
        fault("a blank inside a word", "doll 0;o n 0;", 7);
        items("no blank where none is needed", "doll5;piece5 3 9;on0;off0;mend0;", 5);
    }

    private static void readFullText() {
        items("150 bytes", "doll 0" + Bench.times(143, " ") + ";", 1);
        items("150 bytes", "doll 0;" + Bench.times(143, " "), 1);
        fault("150 bytes, too early", "doll 0" + Bench.times(144, " "), 150);
        fault("the 150th byte", "doll 0;" + Bench.times(142, " ") + "x", 149);
        fault("the 150th byte", "doll 0;" + Bench.times(142, " ") + ";", 149);
        fault("a word up to the 150th byte", "doll 0;" + Bench.times(143, "a"), 7);
        fault("figures up to the 150th byte", "doll " + Bench.times(145, "1"), 5);
        String text = EIGHT_PIECES + "on 0;on 1;on 2;on 3;on 4;on 5;on 6;on 7;off 7;";
        PaperDolls x = new PaperDolls();
        Bench.due(7, "149 bytes", Bench.read(x, text), 18);
        Bench.due(7, "8 PIECES", x.count(0), 8);
        Bench.due(7, "7 ON", x.count(1), 7);
        Bench.due(7, "9 MOVES", x.count(2), 9);
        Bench.due(7, "WORN of all", x.count(5), 8);
        PaperDolls y = Bench.typed(new PaperDolls(), "doll 5" + Bench.times(144, " ") + ";");
        Bench.due(7, "the 151st byte was refused", y.read(), -350);
    }

    /** What stood behind THE TEXT before it was emptied is not read. */
    private static void readOldBytes() {
        PaperDolls x = Bench.typed(new PaperDolls(), "dolls 0;");
        Bench.due(7, "a word at the end", Bench.read(x, "doll"), -204);
        Bench.typed(x, "doll 55;");
        Bench.due(7, "a number at the end", Bench.read(x, "doll 5"), -206);
        Bench.typed(x, "doll 0   ;");
        Bench.due(7, "no blank at the end", Bench.read(x, "doll 0"), -206);
        Bench.typed(x, "doll 0;x");
        Bench.due(7, "nothing behind ;", Bench.read(x, "doll 0;"), 1);
        Bench.due(7, "one more byte", x.type('x'), 8);
        Bench.due(7, "is read", x.read(), -207);
    }

    private static void readTakesThePlaceOfAll() {
        PaperDolls x = Bench.rich();
        Bench.due(7, "how many ITEMS", x.read(), 3);
        int[] counts = {1, 1, 1, 7, 0, 1, 1, 0, 0, 0, Bench.RICH_TEXT.length()};
        for (int what = 0; what <= 10; what++) {
            Bench.due(7, "in the place of all: count " + what, x.count(what), counts[what]);
        }
        Bench.due(7, "nothing to undo", x.undo(), NO);
        Bench.due(7, "THE FRACTION stays", x.part(0) * 10 + x.part(1), 23);
        Bench.due(7, "BAD stays", x.status(0), 1);
        Bench.due(7, "NO stays, but for undo", x.status(1), 2);
        Bench.due(7, "a MOVE behind it", x.takes(0), 0);
        Bench.due(7, "may be undone", x.undo(), 1);
        Bench.due(7, "and no more", x.undo(), NO);
        Bench.due(7, "the same again", x.read(), 3);
        Bench.due(7, "the IMAGE stays", x.from(0), 1);
        Bench.due(7, "as it was kept", x.count(0) * 10 + x.count(9), 54);
        Bench.due(7, "IMAGE 1 is not kept by it", x.from(1), NO);
        PaperDolls y = Bench.rich();
        Bench.due(7, "doll alone", Bench.read(y, "doll 4;"), 1);
        int[] first = {0, 0, 0, 0, 0, 0, 4, 0, 0, 0, 7};
        for (int what = 0; what <= 10; what++) {
            Bench.due(7, "no PIECES: count " + what, y.count(what), first[what]);
        }
    }

    private static void readManyMoves() {
        PaperDolls x = new PaperDolls();
        String text = "doll 0;piece 3 0 9;" + Bench.times(11, "on 0;off 0;") + "on 0;";
        Bench.due(7, "25 ITEMS", Bench.read(x, text), 25);
        Bench.due(7, "each is a MOVE", x.count(2), 23);
        Bench.due(7, "WORN is one more by each on", x.of(0, 3), 12);
        Bench.due(7, "how it HOLDS", x.of(0, 6), 7);
        Bench.due(7, "none of them may be undone", x.count(9), 0);
        Bench.due(7, "again: not WORN twice", x.read(), 25);
        Bench.due(7, "again: not WORN twice", x.of(0, 3), 12);
        Bench.due(7, "again: MOVES from 0", x.count(2), 23);
        Bench.due(7, "THE CHILD is 0", x.child(3), 0);
        PaperDolls y = Bench.rich();
        y.doll(2);
        Bench.due(7, "a fault behind MOVES: all stays", Bench.read(y, "doll 0;piece 0 0 9;on 0;x;"), -224);
        Bench.due(7, "all stays: PIECES", y.count(0), 0);
        Bench.due(7, "all stays: THE CHILD", y.count(6), 2);
    }
}
