/** Each promise by number, with answers worked out by hand from the document. */
public final class PromisesTest {
    private static final int NONE = -101;
    private static final int BAD = -102;
    private static final int NO = -103;
    private static final int FULL = -104;
    private static final int MIN = Integer.MIN_VALUE;
    private static final int MAX = Integer.MAX_VALUE;

    private static int wrong = 0;
    private static int asked = 0;

    public static void main(String[] args) {
        newObject();
        doll();
        child();
        piece();
        type();
        clear();
        read();
        readFaults();
        puts();
        takes();
        mends();
        undo();
        of();
        seen();
        can();
        off();
        going();
        outfits();
        lean();
        days();
        spared();
        few();
        note();
        mark();
        forget();
        is();
        look();
        kinds();
        ask();
        two();
        luck();
        evenings();
        part();
        image();
        from();
        status();
        count();
        digest();
        System.out.println(asked + " answers asked for, " + wrong + " wrong");
        System.exit(wrong == 0 ? 0 : 1);
    }

    private static void due(int promise, String what, long got, long want) {
        asked++;
        if (got != want) {
            wrong++;
            System.out.println("promise " + promise + ": " + what + " answered " + got + ", due is " + want);
        }
    }

    /** A doll with these pieces, three numbers each. */
    private static PaperDolls made(int childKind, int... pieces) {
        PaperDolls x = new PaperDolls();
        x.doll(childKind);
        for (int i = 0; i + 2 < pieces.length; i += 3) {
            x.piece(pieces[i], pieces[i + 1], pieces[i + 2]);
        }
        return x;
    }

    private static int readText(PaperDolls x, String text) {
        x.clear();
        for (int i = 0; i < text.length(); i++) {
            x.type(text.charAt(i));
        }
        return x.read();
    }

    private static void fault(String text, int place) {
        due(7, "\"" + text + "\"", readText(new PaperDolls(), text), -200 - place);
    }

    private static void items(String text, int items) {
        due(7, "\"" + text + "\"", readText(new PaperDolls(), text), items);
    }

    private static long hash(long... values) {
        long h = 1867;
        for (long v : values) {
            h = 31 * h + v;
        }
        return h;
    }

    private static void newObject() {
        PaperDolls x = new PaperDolls();
        for (int what = 0; what <= 10; what++) {
            due(1, "count " + what, x.count(what), 0);
        }
        for (int what = 0; what <= 2; what++) {
            due(1, "status " + what, x.status(what), 0);
        }
        due(1, "above", x.part(0), 0);
        due(1, "below", x.part(1), 1);
        due(1, "no image", x.from(0), NO);
        due(1, "no image", x.from(1), NO);
        due(1, "nothing to undo", x.undo(), NO);
        due(1, "NONE", PaperDolls.NONE, NONE);
        due(1, "BAD", PaperDolls.BAD, BAD);
        due(1, "NO", PaperDolls.NO, NO);
        due(1, "FULL", PaperDolls.FULL, FULL);
    }

    private static void doll() {
        PaperDolls x = made(0, 0, 0, 9, 3, 0, 9);
        x.puts(0);
        x.note(0, 0, 1);
        x.mark(0, 1, 0, 1);
        x.type('d');
        x.luck(0);
        x.image(0);
        x.puts(9);
        due(2, "doll 6", x.doll(6), BAD);
        due(2, "doll -1", x.doll(-1), BAD);
        due(2, "doll MIN", x.doll(MIN), BAD);
        due(2, "pieces stay", x.count(0), 2);
        due(2, "doll 5", x.doll(5), 2);
        int[] left = {0, 0, 0, 0, 0, 0, 5, 0, 0, 0, 1};
        for (int what = 0; what <= 10; what++) {
            due(2, "count " + what, x.count(what), left[what]);
        }
        due(2, "status stays", x.status(0), 4);
        due(2, "image stays", x.from(0), 1);
        due(2, "image has 2", x.count(0), 2);
        x.doll(1);
        due(2, "doll again", x.doll(0), 0);
        due(2, "a new piece is not worn", x.piece(0, 0, 1), 0);
        due(2, "a new piece is not worn", x.of(0, 3), 0);
        PaperDolls y = made(0, 2, 0, 9, 4, 0, 9);
        y.puts(0);
        y.puts(1);
        y.luck(0);
        y.doll(0);
        due(2, "the fraction stays", y.part(0), 1);
    }

    private static void child() {
        PaperDolls x = made(2, 0, 0, 9, 0, 2, 9);
        x.puts(0);
        x.puts(1);
        due(3, "child 6", x.child(6), BAD);
        due(3, "child -1", x.child(-1), BAD);
        due(3, "still undone", x.count(9), 2);
        due(3, "child 2 again", x.child(2), 2);
        due(3, "none undone", x.count(9), 0);
        due(3, "undo", x.undo(), NO);
        due(3, "child 1", x.child(1), 2);
        due(3, "child 1 again", x.child(1), 1);
        due(3, "both stay on", x.count(1), 2);
        due(3, "moves stay", x.count(2), 2);
        x.note(0, 0, 1);
        x.mark(0, 1, 0, 1);
        due(3, "child 3", x.child(3), 1);
        due(3, "notes stay", x.count(7), 1);
        due(3, "marks stay", x.count(8), 1);
        int[] kinds = {0, 5, 4, 2, 1, 3};
        for (int n = 0; n < 6; n++) {
            due(3, "each kind", x.child(kinds[n]), n == 0 ? 3 : kinds[n - 1]);
        }
    }

    private static void piece() {
        PaperDolls x = new PaperDolls();
        due(4, "kind 6", x.piece(6, 0, 1), BAD);
        due(4, "kind -1", x.piece(-1, 0, 1), BAD);
        due(4, "colour 4", x.piece(0, 4, 1), BAD);
        due(4, "colour -1", x.piece(0, -1, 1), BAD);
        due(4, "paper 0", x.piece(0, 0, 0), BAD);
        due(4, "paper 10", x.piece(0, 0, 10), BAD);
        due(4, "none came", x.count(0), 0);
        due(4, "first", x.piece(5, 3, 9), 0);
        due(4, "second", x.piece(0, 0, 1), 1);
        x.puts(0);
        due(4, "one to undo", x.count(9), 1);
        due(4, "a wrong one", x.piece(0, 0, 10), BAD);
        due(4, "one to undo", x.count(9), 1);
        due(4, "third", x.piece(1, 1, 2), 2);
        due(4, "none to undo", x.count(9), 0);
        due(4, "it stays on", x.count(1), 1);
        for (int i = 3; i < 8; i++) {
            due(4, "more", x.piece(i % 6, 2, 5), i);
        }
        x.puts(1);
        x.takes(0);
        int undone = x.count(9);
        due(4, "a ninth", x.piece(0, 0, 1), FULL);
        due(4, "a wrong ninth", x.piece(0, 0, 0), BAD);
        due(4, "undone stays", x.count(9), undone);
        due(4, "eight", x.count(0), 8);
    }

    private static void type() {
        PaperDolls x = new PaperDolls();
        due(5, "type -1", x.type(-1), BAD);
        due(5, "type 128", x.type(128), BAD);
        due(5, "type 0", x.type(0), 1);
        due(5, "type 127", x.type(127), 2);
        for (int n = 3; n <= 150; n++) {
            due(5, "type " + n, x.type('a'), n);
        }
        due(5, "a 151st", x.type('a'), FULL);
        due(5, "a wrong 151st", x.type(128), BAD);
        due(5, "150", x.count(10), 150);
        due(5, "status", x.status(2), 1);
    }

    private static void clear() {
        PaperDolls x = new PaperDolls();
        due(6, "empty", x.clear(), 0);
        x.type('a');
        x.type('b');
        due(6, "two", x.clear(), 2);
        due(6, "none", x.count(10), 0);
        due(6, "again", x.clear(), 0);
        due(6, "type", x.type(';'), 1);
    }

    private static void read() {
        PaperDolls x = made(0, 0, 0, 9);
        x.puts(0);
        x.note(0, 0, 1);
        x.mark(0, 1, 0, 1);
        x.image(1);
        due(7, "all items", readText(x, "doll 3;piece 2 0 9;piece 4 3 9;on 0;on 1;off 0;mend 0;"), 7);
        int[] counts = {2, 1, 4, 8, 0, 1, 3, 0, 0, 0};
        for (int what = 0; what < counts.length; what++) {
            due(7, "count " + what, x.count(what), counts[what]);
        }
        due(7, "the text stays", x.count(10), 54);
        due(7, "undo", x.undo(), NO);
        due(7, "again", x.read(), 7);
        due(7, "kind", x.of(1, 0), 4);
        due(7, "colour", x.of(1, 1), 3);
        due(7, "paper", x.of(1, 2), 9);
        due(7, "worn", x.of(1, 3), 1);
        due(7, "a fault", readText(x, "doll 0;piece 0 0 9;on 0;x;"), -224);
        due(7, "all stays", x.count(0), 2);
        due(7, "all stays", x.count(6), 3);
        due(7, "no refusal", x.status(0) + x.status(1) + x.status(2), 1);
        due(7, "the image stays", x.from(1), 1);
        due(7, "as it was", x.count(7), 1);
        due(7, "undone as it was", x.undo(), 0);

        items("doll 0;", 1);
        items("   doll   5  ;  ", 1);
        items("doll05;", 1);
        items("doll0;piece5 3 9;on0;mend0;off00;", 5);
        items("doll 00;piece 05 03 01;", 2);
        items("doll 0;piece 0 0 9;piece 0 0 9;piece 0 0 9;piece 0 0 9;piece 0 0 9;piece 0 0 9;"
            + "piece 0 0 9;piece 0 0 9;", 9);
        items("doll 0;piece 0 0 1;on 0;off 0;on 0;off 0;on 0;off 0;mend 0;on 0;", 10);
    }

    private static void readFaults() {
        fault("", 0);
        fault("   ", 3);
        fault("doll", 4);
        fault("doll ", 5);
        fault("doll 0", 6);
        fault("doll 0  ", 8);
        fault("dol", 0);
        fault(" dolls 0;", 1);
        fault("Doll 0;", 0);
        fault("piece 0 0 1;doll 0;", 0);
        fault("0 doll;", 0);
        fault(";doll 0;", 0);
        fault("doll doll 0;", 5);
        fault("doll ;", 5);
        fault("doll 6;", 5);
        fault("doll 10;", 5);
        fault("doll 000;", 5);
        fault("doll 0000000000000000000001;", 5);
        fault("doll 0 0;", 7);
        fault("doll 0 piece", 7);
        fault("doll 0;doll 0;", 7);
        fault("doll 0;;", 7);
        fault("doll 0.", 6);
        fault("doll 0 000", 7);
        fault("foll 0;", 0);
        fault("doll 0;xn 0;", 7);
        fault("doll 0;p", 7);
        fault("doll 0;\tpiece 0 0 1;", 7);
        fault("doll\t0;", 4);
        fault("doll 0;piece", 12);
        fault("doll 0;piece 6 0 1;", 13);
        fault("doll 0;piece 0 4 1;", 15);
        fault("doll 0;piece 0 0 0;", 17);
        fault("doll 0;piece 0 0 10;", 17);
        fault("doll 0;piece 0 0;", 16);
        fault("doll 0;piece 0 0 9", 18);
        fault("doll 0;piece 0 0 9 9;", 19);
        fault("doll 0;on 0;", 10);
        fault("doll 0;off 0;", 11);
        fault("doll 0;mend 0;", 12);
        fault("doll 0;on", 9);
        fault("doll 0;on 0", 10);
        fault("doll 0;on x", 10);
        fault("doll 0;piece 0 0 9;on 1;", 22);
        fault("doll 0;piece 0 0 9;on 0;on 0;", 27);
        fault("doll 0;piece 0 0 9;off 0;", 23);
        fault("doll 0;piece 0 0 9;mend 0;", 24);
        fault("doll 0;piece 5 0 1;on 0;", 22);
        fault("doll 1;piece 0 0 9;piece 3 1 9;on 0;on 1;", 39);
        fault("doll 0;piece 0 0 9;piece 0 0 9;on 0;on 1;off 0;", 45);
        fault("doll 0;piece 0 0 9;on 0;mend 0;mend 0;", 36);
        fault("doll 0;piece 0 0 9;piece 0 0 9;piece 0 0 9;piece 0 0 9;piece 0 0 9;piece 0 0 9;"
            + "piece 0 0 9;piece 0 0 9;piece x", 103);
        // What stood behind the text before it was emptied is not read.
        PaperDolls x = new PaperDolls();
        readText(x, "dolls 0;");
        due(7, "a word at the end", readText(x, "doll"), -204);
        readText(x, "doll 55;");
        due(7, "a number at the end", readText(x, "doll 5"), -206);
        readText(x, "doll 0   ;");
        due(7, "no blank at the end", readText(x, "doll 0"), -206);
    }

    private static void puts() {
        PaperDolls x = made(1, 0, 0, 1, 3, 0, 9, 3, 1, 9, 1, 0, 1);
        due(8, "no piece", x.puts(4), BAD);
        due(8, "no piece", x.puts(-1), BAD);
        due(8, "no piece", x.puts(MAX), BAD);
        due(8, "shirt", x.puts(0), 1);
        due(8, "worn", x.of(0, 3), 1);
        due(8, "moves", x.count(2), 1);
        due(8, "on already", x.puts(0), NO);
        due(8, "of another colour", x.puts(2), NO);
        due(8, "a coat that holds by 0", x.puts(3), NO);
        due(8, "hat", x.puts(1), 2);
        due(8, "over all others", x.of(1, 4), 1);
        due(8, "nothing by what was refused", x.count(2), 2);
        PaperDolls y = made(2, 0, 0, 9, 3, 1, 9, 4, 2, 9);
        due(8, "gaudy", y.puts(0), 1);
        due(8, "gaudy has no like", y.puts(1), NO);
        due(8, "gaudy has others", y.puts(2), 2);
        PaperDolls z = made(0, 0, 0, 1);
        for (int n = 0; n < 3; n++) {
            due(8, "until worn", z.puts(0), 1);
            z.takes(0);
        }
        due(8, "worn out", z.puts(0), NO);
    }

    private static void takes() {
        PaperDolls x = made(0, 0, 0, 9, 3, 0, 9, 1, 0, 9, 4, 0, 9);
        due(9, "no piece", x.takes(4), BAD);
        due(9, "not on", x.takes(0), NO);
        x.puts(0);
        x.puts(1);
        x.puts(2);
        due(9, "the coat is over the shirt", x.takes(0), NO);
        due(9, "nothing is over the hat", x.takes(1), 2);
        due(9, "the coat came down", x.of(2, 4), 1);
        due(9, "moves", x.count(2), 4);
        due(9, "coat", x.takes(2), 1);
        due(9, "shirt", x.takes(0), 0);
        due(9, "shirt again", x.takes(0), NO);
        due(9, "still worn", x.of(0, 3), 1);
    }

    private static void mends() {
        PaperDolls x = made(0, 0, 0, 9, 3, 0, 9);
        due(10, "no piece", x.mends(2), BAD);
        due(10, "no piece", x.mends(-1), BAD);
        due(10, "not worn", x.mends(0), NO);
        for (int n = 0; n < 4; n++) {
            x.puts(0);
            x.takes(0);
        }
        x.puts(0);
        due(10, "on and worn", x.mends(0), 5);
        due(10, "mended", x.of(0, 3), 0);
        due(10, "still on", x.count(1), 1);
        due(10, "a move", x.count(2), 10);
        due(10, "mended already", x.mends(0), NO);
    }

    private static void undo() {
        PaperDolls x = made(0, 0, 0, 9, 3, 0, 9, 4, 0, 9);
        due(11, "none", x.undo(), NO);
        x.puts(0);
        x.puts(1);
        x.puts(2);
        x.takes(1);
        due(11, "takes undone", x.undo(), 3);
        due(11, "the order is as it was", x.of(1, 4), 1);
        due(11, "the order is as it was", x.of(2, 4), 2);
        x.mends(2);
        due(11, "mends undone", x.undo(), 3);
        due(11, "worn as it was", x.of(2, 3), 1);
        due(11, "puts undone", x.undo(), 2);
        due(11, "not on", x.of(2, 4), NONE);
        due(11, "not worn", x.of(2, 3), 0);
        due(11, "two more", x.count(9), 2);
        x.undo();
        due(11, "the first", x.undo(), 0);
        due(11, "none more", x.undo(), NO);
        for (int n = 0; n < 10; n++) {
            x.puts(0);
            x.takes(0);
        }
        due(11, "8 at most", x.count(9), 8);
        for (int n = 1; n <= 8; n++) {
            due(11, "undo " + n, x.undo(), 20 - n);
        }
        due(11, "a ninth", x.undo(), NO);
        due(11, "worn", x.of(0, 3), 6);
    }

    private static void of() {
        PaperDolls x = made(0, 0, 0, 5, 1, 1, 6, 2, 2, 7, 3, 3, 8, 4, 2, 9, 5, 1, 4);
        int[] spots = {2, 6, 7, 1, 8, 14};
        int[] holds = {5, 5, 6, 10, 11, 6};
        for (int i = 0; i < 6; i++) {
            due(12, "kind", x.of(i, 0), i);
            due(12, "place", x.of(i, 4), NONE);
            due(12, "spots", x.of(i, 5), spots[i]);
            due(12, "holds", x.of(i, 6), holds[i]);
        }
        due(12, "colour", x.of(3, 1), 3);
        due(12, "paper", x.of(4, 2), 9);
        due(12, "what 7", x.of(0, 7), BAD);
        due(12, "what -1", x.of(0, -1), BAD);
        due(12, "no piece", x.of(6, 0), BAD);
        due(12, "no piece", x.of(-1, 0), BAD);
        for (int n = 0; n < 4; n++) {
            for (int i = 0; i < 6; i++) {
                x.puts(i);
                x.takes(i);
            }
        }
        int[] wornHolds = {4, 4, 5, 9, 6, 4};
        for (int i = 0; i < 6; i++) {
            due(12, "worn", x.of(i, 3), 4);
            due(12, "holds when worn", x.of(i, 6), wornHolds[i]);
        }
    }

    private static void seen() {
        PaperDolls x = made(0, 2, 0, 9, 3, 0, 9, 1, 0, 9);
        due(13, "spot 4", x.seen(4), BAD);
        due(13, "spot -1", x.seen(-1), BAD);
        due(13, "none", x.seen(0), NONE);
        x.puts(0);
        x.puts(1);
        due(13, "the hat over the hood", x.seen(0), 1);
        due(13, "the cloak", x.seen(1), 0);
        x.puts(2);
        due(13, "the coat over the cloak", x.seen(1), 2);
        due(13, "the coat over the cloak", x.seen(2), 2);
        due(13, "no feet", x.seen(3), NONE);
        due(13, "status", x.status(0), 2);
    }

    private static void can() {
        PaperDolls x = made(0, 0, 0, 9, 5, 0, 1, 3, 1, 9, 3, 2, 9);
        due(14, "all that hold", x.can(), 13);
        x.puts(0);
        due(14, "what goes with the shirt", x.can(), 4);
        x.puts(2);
        due(14, "none", x.can(), 0);
        due(14, "no pieces", new PaperDolls().can(), 0);
    }

    private static void off() {
        PaperDolls x = made(0, 0, 0, 9, 3, 0, 9, 1, 0, 9, 4, 0, 9);
        due(15, "none on", x.off(), 0);
        x.puts(0);
        x.puts(1);
        x.puts(2);
        due(15, "not the shirt", x.off(), 6);
        x.takes(2);
        due(15, "shirt and hat", x.off(), 3);
    }

    private static void going() {
        int[][] byKind = {
            {0b0011, 0b0111, 0b1110, 0b1100},
            {0b0001, 0b0010, 0b0100, 0b1000},
            {0b1100, 0b1000, 0b0001, 0b0011},
            {0b1001, 0b0110, 0b0110, 0b1001},
            {0b0011, 0b0111, 0b0110, 0b0000},
            {0b1111, 0b1001, 0b0001, 0b0011},
        };
        for (int kind = 0; kind < 6; kind++) {
            PaperDolls x = made(kind, 0, 0, 9, 1, 1, 9, 3, 2, 9, 4, 3, 9);
            for (int i = 0; i < 4; i++) {
                due(16, "child " + kind + " colour " + i, x.going(i), byKind[kind][i]);
            }
            due(16, "no piece", x.going(4), BAD);
            due(16, "no piece", x.going(-1), BAD);
        }
    }

    private static void outfits() {
        // 0 shirt, 1 coat, 2 cloak, 3 hat, 4 boots, 5 suit, all of one colour.
        PaperDolls x = made(1, 0, 0, 9, 1, 0, 9, 2, 0, 9, 3, 0, 9, 4, 0, 9, 5, 0, 9);
        due(17, "how many", x.outfits(-1), 4);
        due(17, "cloak, boots", x.outfits(0), 4 + 16);
        due(17, "coat, hat, boots", x.outfits(1), 2 + 8 + 16);
        due(17, "cloak, suit", x.outfits(2), 4 + 32);
        due(17, "hat, suit", x.outfits(3), 8 + 32);
        due(17, "a fifth", x.outfits(4), -5);
        due(17, "MAX", x.outfits(MAX), -5);
        due(17, "-2", x.outfits(-2), BAD);
        due(17, "MIN", x.outfits(MIN), BAD);
        x.puts(2);
        x.puts(4);
        due(17, "on or not", x.outfits(-1), 4);
        due(17, "none", new PaperDolls().outfits(-1), 0);
        due(17, "one that does not hold", made(0, 5, 0, 1, 3, 0, 9).outfits(-1), 0);
        due(17, "one that holds by 2", made(0, 5, 0, 2, 3, 0, 9).outfits(-1), 1);
        due(17, "a coat that holds by 1", made(0, 1, 0, 2, 3, 0, 1, 4, 0, 1).outfits(-1), 1);
        due(17, "gaudy, alike", made(2, 5, 0, 9, 3, 0, 9).outfits(-1), 0);
        due(17, "gaudy, unlike", made(2, 5, 0, 9, 3, 2, 9).outfits(-1), 1);
        due(17, "wintry, red", made(4, 5, 3, 9, 3, 3, 9).outfits(-1), 0);
    }

    private static void lean() {
        PaperDolls x = made(0, 1, 0, 9, 3, 0, 9, 4, 0, 9, 5, 2, 9);
        due(18, "three", x.lean(0), 3);
        due(18, "coat, hat, boots", x.lean(1), 7);
        x.piece(3, 2, 9);
        due(18, "two", x.lean(0), 2);
        due(18, "suit, hat", x.lean(1), 24);
        x.piece(2, 2, 9);
        due(18, "the first of like ones", x.lean(1), 24);
        due(18, "what 2", x.lean(2), BAD);
        due(18, "what -1", x.lean(-1), BAD);
        due(18, "none", new PaperDolls().lean(0), NONE);
        due(18, "none", new PaperDolls().lean(1), NONE);
        due(18, "bad ahead of none", new PaperDolls().lean(2), BAD);
    }

    private static void days() {
        due(19, "none", new PaperDolls().days(), 0);
        due(19, "four", made(1, 2, 0, 9, 4, 0, 9, 2, 1, 9, 4, 1, 9, 2, 2, 9, 4, 2, 9, 2, 3, 9, 4, 3, 9).days(), 4);
        due(19, "one pair of boots", made(1, 2, 0, 9, 2, 0, 9, 2, 0, 9, 4, 0, 9).days(), 1);
        // Cloak and suit go together, but apart there are two days: cloak, boots and hat, suit.
        due(19, "not the leanest first", made(1, 2, 0, 9, 5, 0, 9, 3, 0, 9, 4, 0, 9).days(), 2);
    }

    private static void spared() {
        due(20, "no pieces", new PaperDolls().spared(), 0);
        due(20, "no outfits", made(0, 0, 0, 9, 1, 0, 9).spared(), 3);
        due(20, "the shirt", made(0, 0, 0, 9, 2, 0, 9, 4, 0, 9).spared(), 1);
        due(20, "of two outfits", made(1, 2, 0, 9, 4, 0, 9, 2, 1, 9, 4, 1, 9, 3, 0, 9).spared(), 16);
        due(20, "of another colour, too", made(1, 0, 0, 9, 2, 0, 9, 4, 0, 9, 3, 1, 9).spared(), 9);
    }

    private static void few() {
        due(21, "no pieces", new PaperDolls().few(-1), -6);
        due(21, "none, whatever k", new PaperDolls().few(MAX), -6);
        due(21, "bad ahead of none", new PaperDolls().few(-2), BAD);
        PaperDolls x = made(0, 0, 0, 9, 1, 0, 9, 3, 0, 9, 4, 0, 9);
        due(21, "three", x.few(-1), 3);
        due(21, "coat", x.few(0), 1);
        due(21, "hat", x.few(1), 2);
        due(21, "boots", x.few(2), 3);
        due(21, "no fourth", x.few(3), -5);
        x.puts(1);
        x.puts(2);
        due(21, "one", x.few(-1), 1);
        due(21, "boots", x.few(0), 3);
        x.puts(3);
        due(21, "dressed", x.few(-1), 0);
        due(21, "no first", x.few(0), -5);
        // The shirt of another colour is in the way.
        PaperDolls y = made(1, 0, 0, 9, 2, 1, 9, 4, 1, 9);
        y.puts(0);
        due(21, "off, on, on", y.few(-1), 3);
        due(21, "the shirt off", y.few(0), 10);
        due(21, "the cloak on", y.few(1), 1);
        due(21, "the boots on", y.few(2), 2);
        due(21, "nothing is changed", y.count(2), 1);
        // Boots that are worn out are mended first.
        PaperDolls z = made(0, 2, 0, 9, 4, 0, 1);
        for (int n = 0; n < 2; n++) {
            z.puts(1);
            z.takes(1);
        }
        z.puts(1);
        z.takes(1);
        due(21, "the boots hold by -1", z.of(1, 6), -1);
        due(21, "on, mend, on", z.few(-1), 3);
        due(21, "cloak", z.few(0), 0);
        due(21, "mend the boots", z.few(1), 21);
        due(21, "boots", z.few(2), 1);
        // Both are worn out: four moves are too many.
        PaperDolls w = made(0, 2, 0, 2, 4, 0, 1);
        for (int n = 0; n < 3; n++) {
            w.puts(0);
            w.puts(1);
            w.takes(0);
            w.takes(1);
        }
        due(21, "four moves", w.few(-1), -6);
    }

    private static void note() {
        PaperDolls x = new PaperDolls();
        due(22, "a above b", x.note(1, 0, 1), BAD);
        due(22, "a -1", x.note(-1, 0, 1), BAD);
        due(22, "b 4", x.note(0, 4, 1), BAD);
        due(22, "a 4", x.note(4, 4, 1), BAD);
        due(22, "went 2", x.note(0, 0, 2), BAD);
        due(22, "went -1", x.note(0, 0, -1), BAD);
        for (int n = 1; n <= 6; n++) {
            due(22, "note " + n, x.note(3, 3, 1), n);
        }
        due(22, "a seventh", x.note(0, 0, 1), FULL);
        due(22, "a wrong seventh", x.note(0, 0, 2), BAD);
        due(22, "six", x.count(7), 6);
    }

    private static void mark() {
        PaperDolls x = made(0, 0, 0, 9);
        due(23, "no piece", x.mark(1, 1, 0, 0), BAD);
        due(23, "no piece", x.mark(-1, 1, 0, 0), BAD);
        due(23, "p 0", x.mark(0, 0, 0, 0), BAD);
        due(23, "p 10", x.mark(0, 10, 0, 0), BAD);
        due(23, "n -1", x.mark(0, 1, -1, 0), BAD);
        due(23, "n 100", x.mark(0, 1, 100, 0), BAD);
        due(23, "x -100", x.mark(0, 1, 0, -100), BAD);
        due(23, "x 41", x.mark(0, 1, 0, 41), BAD);
        due(23, "the least", x.mark(0, 1, 0, -99), 1);
        due(23, "the most", x.mark(0, 9, 99, 40), 2);
        for (int n = 3; n <= 6; n++) {
            due(23, "mark " + n, x.mark(0, 5, 5, 5), n);
        }
        due(23, "a seventh", x.mark(0, 5, 5, 5), FULL);
        due(23, "a wrong seventh", x.mark(0, 5, 5, 41), BAD);
    }

    private static void forget() {
        PaperDolls x = made(0, 0, 0, 9);
        x.note(0, 0, 1);
        x.note(0, 1, 1);
        x.mark(0, 1, 0, 1);
        due(24, "what 2", x.forget(2), BAD);
        due(24, "what -1", x.forget(-1), BAD);
        due(24, "notes", x.forget(0), 2);
        due(24, "no notes", x.count(7), 0);
        due(24, "marks stay", x.count(8), 1);
        due(24, "marks", x.forget(1), 1);
        due(24, "no marks", x.count(8), 0);
        due(24, "again", x.forget(1), 0);
        due(24, "all kinds again", x.is(), 63);
    }

    private static void is() {
        PaperDolls x = new PaperDolls();
        due(25, "all", x.is(), 63);
        x.note(2, 3, 1);
        due(25, "plain alone", x.is(), 1);
        x.note(0, 0, 0);
        due(25, "none", x.is(), 0);
        x.forget(0);
        x.note(0, 1, 0);
        due(25, "strict, gaudy, pairs", x.is(), 2 + 4 + 8);
        x.note(1, 2, 1);
        due(25, "pairs", x.is(), 8);
        x.forget(0);
        x.note(0, 0, 0);
        due(25, "gaudy", x.is(), 4);
        x.forget(0);
        x.note(3, 3, 0);
        due(25, "gaudy, wintry, free", x.is(), 4 + 16 + 32);
    }

    private static void look() {
        PaperDolls x = new PaperDolls();
        due(26, "all: three and three", x.look(), 1);
        x.note(3, 3, 0);
        // Gaudy, wintry, free: 00 has wintry and free, the greater part is two; no pair has all apart.
        due(26, "gaudy, wintry, free", x.look(), 0);
        x.forget(0);
        x.note(0, 2, 1);
        // Gaudy and free are parted by 00.
        due(26, "gaudy, free", x.look(), 0);
        x.forget(0);
        x.note(3, 3, 1);
        x.note(0, 1, 0);
        // Strict and pairs go alike but for 03 and 12.
        due(26, "strict, pairs", x.look(), 3);
        x.note(0, 3, 0);
        due(26, "strict alone", x.look(), 0);
        x.note(0, 0, 0);
        due(26, "none", x.look(), NONE);
        x.forget(0);
        x.note(0, 1, 1);
        x.note(0, 2, 0);
        // Plain and wintry are parted by 23 and 33 alone.
        due(26, "plain, wintry", x.look(), 23);
    }

    private static void kinds() {
        PaperDolls x = made(0, 0, 0, 9, 4, 0, 3);
        due(27, "no piece", x.kinds(2), BAD);
        due(27, "no piece", x.kinds(-1), BAD);
        due(27, "all", x.kinds(0), 63);
        x.mark(0, 5, 4, 3);
        due(27, "coat, cloak, boots no", x.kinds(0), 2 + 4);
        due(27, "those of the other piece", x.kinds(1), 63);
        x.mark(0, 2, 0, 2);
        due(27, "none", x.kinds(0), 0);
        x.forget(1);
        x.mark(1, 2, 0, 4);
        due(27, "hat, boots", x.kinds(1), 8 + 16);
        x.mark(1, 2, 1, 3);
        due(27, "boots", x.kinds(1), 16);
        x.forget(1);
        x.mark(1, 4, 2, 6);
        due(27, "hat, suit", x.kinds(1), 8 + 32);
        x.forget(1);
        x.mark(1, 9, 99, -24);
        due(27, "shirt", x.kinds(1), 1);
    }

    private static void ask() {
        PaperDolls x = made(0, 0, 0, 1, 0, 0, 5);
        due(28, "no piece", x.ask(2), BAD);
        due(28, "no piece", x.ask(-1), BAD);
        due(28, "all, of paper 1", x.ask(0), 4);
        x.mark(0, 1, 0, 3);
        due(28, "hat, boots", x.ask(0), 1);
        x.mark(0, 1, 1, 3);
        due(28, "hat", x.ask(0), 0);
        x.mark(0, 1, 1, 2);
        due(28, "none", x.ask(0), NONE);
        x.forget(1);
        // Coat, cloak, suit (holding by 0): the suit is parted from them from n = 3 on.
        x.mark(0, 1, 0, 0);
        due(28, "coat, cloak, suit", x.ask(0), 3);
        x.forget(1);
        x.mark(1, 1, 0, 0);
        due(28, "of paper 5", x.ask(1), 0);
        // Shirt and suit of paper 2 hold alike until n = 3.
        PaperDolls y = made(0, 0, 0, 2);
        y.mark(0, 2, 0, 2);
        due(28, "shirt, suit", y.kinds(0), 1 + 32);
        due(28, "shirt, suit", y.ask(0), 3);
    }

    private static void two() {
        due(29, "no pieces", new PaperDolls().two(-1), 0);
        due(29, "no first", new PaperDolls().two(0), -5);
        due(29, "-2", new PaperDolls().two(-2), BAD);
        PaperDolls one = made(0, 0, 0, 9);
        due(29, "one alone rests with itself", one.two(-1), 1);
        due(29, "0 and 0", one.two(0), 0);
        due(29, "no second", one.two(1), -5);
        one.puts(0);
        due(29, "none that is not on", one.two(-1), 0);
        // Shirt and hat: 2 each apart, -2 together.
        PaperDolls x = made(0, 0, 0, 9, 3, 0, 9);
        due(29, "two", x.two(-1), 2);
        due(29, "first", x.two(0), 1);
        due(29, "second", x.two(1), 10);
        // Strict, unlike colours: -1 each, still more than -2.
        PaperDolls y = made(1, 0, 0, 9, 3, 1, 9);
        due(29, "two", y.two(-1), 2);
        // A piece that can not be put on gets 0, which is more than -1.
        PaperDolls z = made(1, 0, 0, 9, 3, 1, 9, 5, 2, 1);
        // Beside the suit the hat gets 2, the shirt 1: the suit covers the body, though it can not be put on.
        due(29, "two", z.two(-1), 2);
        due(29, "hat, suit", z.two(0), 12);
        due(29, "suit, hat", z.two(1), 21);
        due(29, "nothing is changed", z.count(2), 0);
        // Beside a coat that can not be put on the shirt gets 1, the other such coat 0.
        PaperDolls v = made(0, 0, 0, 9, 1, 0, 1, 1, 0, 1);
        due(29, "four", v.two(-1), 4);
        int[] resting = {1, 2, 10, 20};
        for (int k = 0; k < 4; k++) {
            due(29, "the k-th", v.two(k), resting[k]);
        }
        due(29, "no fifth", v.two(4), -5);
        // The hat goes with neither the shirt nor the boots.
        PaperDolls w = made(1, 0, 0, 9, 3, 1, 9, 4, 0, 9);
        due(29, "two", w.two(-1), 2);
        due(29, "shirt, boots", w.two(0), 2);
        due(29, "boots, shirt", w.two(1), 20);
    }

    private static void luck() {
        PaperDolls x = made(0, 2, 0, 9, 4, 0, 9, 0, 0, 9);
        due(30, "n 5", x.luck(5), BAD);
        due(30, "n -1", x.luck(-1), BAD);
        due(30, "n 1", x.luck(1), 1);
        due(30, "none", x.part(0), 0);
        due(30, "of one", x.part(1), 1);
        due(30, "n 2", x.luck(2), 1);
        due(30, "one", x.part(0), 1);
        due(30, "of three", x.part(1), 3);
        due(30, "n 4: three there are", x.luck(4), 1);
        due(30, "always", x.part(0), 1);
        due(30, "always", x.part(1), 1);
        x.puts(0);
        x.luck(1);
        due(30, "boots", x.part(0), 1);
        due(30, "of two", x.part(1), 2);
        x.puts(1);
        x.luck(0);
        due(30, "dressed", x.part(0), 1);
        x.luck(1);
        due(30, "dressed, and the shirt", x.part(0), 1);
        x.child(1);
        x.piece(3, 1, 9);
        x.luck(1);
        due(30, "the hat of another colour", x.part(0), 1);
        due(30, "the hat of another colour", x.part(1), 2);
        x.luck(2);
        due(30, "both", x.part(0), 0);
        due(30, "both", x.part(1), 1);
        due(30, "nothing is changed", x.count(2), 2);
    }

    private static void evenings() {
        PaperDolls x = made(0, 2, 0, 9, 4, 0, 9);
        due(31, "seed -1", x.evenings(-1, 0), BAD);
        due(31, "seed 1000000", x.evenings(1000000, 0), BAD);
        due(31, "n -1", x.evenings(0, -1), BAD);
        due(31, "n 61", x.evenings(0, 61), BAD);
        due(31, "no days", x.evenings(999999, 0), 0);
        x.puts(0);
        x.puts(1);
        // Seed 0: X is 12345 at first, piece 0, which nothing covers: it is taken off.
        due(31, "taken off", x.evenings(0, 1), 0);
        due(31, "nothing is changed", x.count(4), 1);
        // Seed 5: 5517576225 + 12345, over 2^31 1222621274, by 65536 18655, by 8 7: no such piece.
        due(31, "no such piece: she is dressed still", x.evenings(5, 1), 1);
        // By seed 0 the second X is 1406932606, by 65536 21468, by 8 4; the third 654583775: 9988, 4.
        due(31, "no such pieces behind", x.evenings(0, 3), 0);
        // A suit over the shirt: the shirt, at piece 0, can neither be put on nor taken off, so it is mended.
        PaperDolls y = made(0, 0, 0, 9, 5, 0, 9, 3, 0, 9);
        y.puts(0);
        y.puts(1);
        y.puts(2);
        due(31, "mended", y.evenings(0, 3), 3);
        due(31, "nothing is changed", y.of(0, 3), 1);
        // By seed 0 the pieces are 0, 4, 4: the cloak on, the boots on, the boots off.
        PaperDolls z = made(0, 2, 0, 9, 0, 0, 9, 0, 0, 9, 0, 0, 9, 4, 0, 1);
        due(31, "cloak", z.evenings(0, 1), 0);
        due(31, "cloak, boots", z.evenings(0, 2), 1);
        due(31, "boots off", z.evenings(0, 3), 1);
        for (int n = 0; n < 3; n++) {
            z.puts(4);
            z.takes(4);
        }
        due(31, "the boots are worn out", z.of(4, 6), -1);
        due(31, "cloak, boots mended", z.evenings(0, 2), 0);
        due(31, "boots on", z.evenings(0, 3), 1);
    }

    private static void part() {
        PaperDolls x = new PaperDolls();
        due(32, "above", x.part(0), 0);
        due(32, "below", x.part(1), 1);
        due(32, "what 2", x.part(2), BAD);
        due(32, "what -1", x.part(-1), BAD);
        due(32, "refused", x.status(0), 2);
    }

    private static void image() {
        PaperDolls x = made(2, 0, 0, 9);
        due(33, "image 2", x.image(2), BAD);
        due(33, "image -1", x.image(-1), BAD);
        x.puts(0);
        x.note(0, 3, 1);
        due(33, "image 1", x.image(1), 1);
        long was = x.digest();
        x.takes(0);
        x.undo();
        x.undo();
        x.note(0, 0, 0);
        x.mark(0, 9, 0, 9);
        x.piece(3, 3, 3);
        x.child(4);
        x.from(1);
        due(33, "all as it was", x.digest(), was);
        due(33, "it may be undone", x.undo(), 0);
        x.from(1);
        due(33, "the image is not changed by that", x.digest(), was);
        x.doll(0);
        due(33, "another image in its place", x.image(1), 1);
        x.piece(0, 0, 1);
        x.from(1);
        due(33, "no pieces", x.count(0), 0);
        imageOfAll();
    }

    private static void imageOfAll() {
        PaperDolls x = made(0, 0, 0, 9, 3, 0, 9);
        x.note(0, 3, 1);
        x.mark(1, 9, 0, 9);
        x.puts(0);
        x.takes(0);
        x.puts(1);
        x.image(0);
        long was = x.digest();
        x.forget(0);
        x.note(1, 1, 0);
        x.forget(1);
        x.mark(0, 2, 3, 4);
        for (int n = 0; n < 5; n++) {
            x.puts(0);
            x.takes(0);
        }
        due(33, "from", x.from(0), 1);
        due(33, "notes, marks and all as they were", x.digest(), was);
        due(33, "three to undo", x.count(9), 3);
        due(33, "undo", x.undo(), 2);
        due(33, "neither is on", x.count(1), 0);
        due(33, "undo", x.undo(), 1);
        due(33, "the shirt is on", x.of(0, 4), 0);
        due(33, "undo", x.undo(), 0);
        due(33, "not worn", x.count(5), 0);
    }

    private static void from() {
        PaperDolls x = made(2, 0, 0, 9, 2, 2, 9, 4, 0, 9);
        due(34, "from 2", x.from(2), BAD);
        due(34, "from -1", x.from(-1), BAD);
        due(34, "from 0", x.from(0), NO);
        x.image(0);
        due(34, "from 1", x.from(1), NO);
        x.type('a');
        x.puts(1);
        x.puts(2);
        x.luck(0);
        due(34, "from 0", x.from(0), 1);
        due(34, "none on", x.count(1), 0);
        due(34, "nothing to undo", x.undo(), NO);
        due(34, "the text stays", x.count(10), 1);
        due(34, "the fraction stays", x.part(0), 1);
        due(34, "bad stays", x.status(0), 2);
        due(34, "no stays", x.status(1), 3);
        due(34, "the image stays", x.from(0), 1);
    }

    private static void status() {
        PaperDolls x = new PaperDolls();
        due(35, "bad", x.status(0), 0);
        due(35, "what 3", x.status(3), -1);
        due(35, "what -1", x.status(-1), -1);
        due(35, "those were bad", x.status(0), 2);
        x.undo();
        due(35, "no", x.status(1), 1);
        for (int n = 0; n < 7; n++) {
            x.note(0, 0, 0);
        }
        due(35, "full", x.status(2), 1);
        x.outfits(9);
        x.two(9);
        x.few(-1);
        x.few(9);
        x.read();
        x.seen(0);
        x.lean(0);
        due(35, "answers that are no refusals", x.status(0), 2);
        due(35, "answers that are no refusals", x.status(1), 1);
        due(35, "answers that are no refusals", x.status(2), 1);
    }

    private static void count() {
        PaperDolls x = made(5, 2, 0, 9, 4, 0, 9, 0, 3, 9);
        x.puts(0);
        x.puts(2);
        x.takes(2);
        x.puts(1);
        x.note(0, 0, 1);
        x.note(0, 0, 1);
        x.mark(0, 1, 1, 1);
        x.type('x');
        x.type('x');
        x.type('x');
        int[] counts = {3, 2, 4, 15, 1, 3, 5, 2, 1, 4, 3};
        for (int what = 0; what <= 10; what++) {
            due(36, "count " + what, x.count(what), counts[what]);
        }
        due(36, "count 11", x.count(11), BAD);
        due(36, "count -1", x.count(-1), BAD);
        due(36, "refused", x.status(0), 2);
        x.takes(0);
        due(36, "spots", x.count(3), 8);
        due(36, "dressed", x.count(4), 0);
    }

    private static void digest() {
        PaperDolls x = new PaperDolls();
        due(37, "new", x.digest(), hash(0, 0, 0, 0, 0, 0, 0, 0, 0, 0, 0, 0, 1));
        x.doll(3);
        x.piece(2, 3, 9);
        x.piece(4, 0, 8);
        x.puts(1);
        x.puts(0);
        x.note(1, 2, 1);
        x.mark(1, 7, 6, -5);
        x.luck(0);
        x.type(';');
        due(37, "all", x.digest(), hash(2, 2, 2, 15, 1, 2, 3, 1, 1, 2, 1,
            2, 3, 9, 1, 4, 0, 8, 1, 1, 0, 1, 2, 1, 1, 7, 6, -5, 1, 1));
        long was = x.digest();
        x.puts(9);
        x.status(9);
        due(37, "status is not in it", x.digest(), was);
    }
}
