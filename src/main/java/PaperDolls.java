/** A paper doll, her clothes and the child who has her; ../shared/DOC.md says what each call answers. */
public final class PaperDolls {
    public static final int NONE = -101, BAD = -102, NO = -103, FULL = -104;

    private static final int NOT_SO_MANY = -5;
    private static final int NO_ROW = -6;
    private static final int NO_SUCH_STATUS = -1;
    private static final int HOW_MANY = -1;
    private static final int ALLOWED = 0;

    private static final int MOST_PIECES = 8;
    private static final int ALL_SETS = 1 << MOST_PIECES;
    private static final int MOST_UNDONE = 8;
    private static final int MOST_MOVES = 9999;
    private static final int MOST_TEXT = 150;
    private static final int MOST_NOTES = 6;
    private static final int NOTE_SIZE = 3;
    private static final int MARK_SIZE = 4;
    private static final int MOST_IMAGES = 2;

    private static final int KINDS = 6;
    private static final int COLOURS = 4;
    private static final int MOST_PAPER = 9;
    private static final int MOST_WORN = 99;
    private static final int LEAST_HELD = -99;
    private static final int MOST_HELD = 40;
    private static final int MOST_ASKED = 30;
    private static final int MOST_LUCK = 4;
    private static final int MOST_SEED = 999999;
    private static final int MOST_EVENINGS = 60;

    private static final int SPOTS = 4;
    private static final int HEAD = 1;
    private static final int BODY = 2;
    private static final int LEGS = 4;
    private static final int FEET = 8;
    private static final int ALL_SPOTS = HEAD | BODY | LEGS | FEET;

    private static final int PUT = 0;
    private static final int TAKE = 1;
    private static final int MEND = 2;

    private final Doll doll = new Doll();
    private final Doll draft = new Doll();
    private final Doll[] images = new Doll[MOST_IMAGES];
    private final boolean[] imageKept = new boolean[MOST_IMAGES];
    private final Wear trial = new Wear();
    private final Reader reader = new Reader();
    private final Wardrobe wardrobe = new Wardrobe();
    private final MoveSearch moveSearch = new MoveSearch();
    private final byte[] text = new byte[MOST_TEXT];
    private int textLength;
    private long above;
    private long below;
    private int refusedBad;
    private int refusedNo;
    private int refusedFull;

    public PaperDolls() {
        for (int i = 0; i < MOST_IMAGES; i++) {
            images[i] = new Doll();
        }
        below = 1;
    }

    // ---- a doll

    public int doll(int kind) {
        if (!within(kind, 0, KINDS - 1)) {
            return refuse(BAD);
        }
        int were = doll.pieces;
        doll.begin(kind);
        return were;
    }

    public int child(int kind) {
        if (!within(kind, 0, KINDS - 1)) {
            return refuse(BAD);
        }
        int was = doll.childKind;
        doll.childKind = kind;
        doll.pastCount = 0;
        return was;
    }

    public int piece(int kind, int colour, int paper) {
        if (!within(kind, 0, KINDS - 1) || !within(colour, 0, COLOURS - 1) || !within(paper, 1, MOST_PAPER)) {
            return refuse(BAD);
        }
        if (doll.pieces >= MOST_PIECES) {
            return refuse(FULL);
        }
        doll.addPiece(kind, colour, paper);
        return doll.pieces - 1;
    }

    public int type(int c) {
        if (!within(c, 0, 127)) {
            return refuse(BAD);
        }
        if (textLength >= MOST_TEXT) {
            return refuse(FULL);
        }
        text[textLength] = (byte) c;
        textLength++;
        return textLength;
    }

    public int clear() {
        int had = textLength;
        textLength = 0;
        return had;
    }

    public int read() {
        int answer = reader.readDoll(text, textLength, draft);
        if (answer >= 0) {
            doll.copyFrom(draft);
        }
        return answer;
    }

    // ---- moves

    public int puts(int i) {
        int reason = whyNoMove(PUT, i);
        if (reason != ALLOWED) {
            return refuse(reason);
        }
        doll.moveForGood(PUT, i);
        return doll.now.onCount;
    }

    public int takes(int i) {
        int reason = whyNoMove(TAKE, i);
        if (reason != ALLOWED) {
            return refuse(reason);
        }
        doll.moveForGood(TAKE, i);
        return doll.now.onCount;
    }

    public int mends(int i) {
        int reason = whyNoMove(MEND, i);
        if (reason != ALLOWED) {
            return refuse(reason);
        }
        int was = doll.now.worn[i];
        doll.moveForGood(MEND, i);
        return was;
    }

    public int undo() {
        if (doll.pastCount < 1) {
            return refuse(NO);
        }
        doll.bringBack();
        return doll.now.moves;
    }

    public int of(int i, int what) {
        if (!doll.has(i)) {
            return refuse(BAD);
        }
        switch (what) {
            case 0: return doll.kind[i];
            case 1: return doll.colour[i];
            case 2: return doll.paper[i];
            case 3: return doll.now.worn[i];
            case 4: return doll.now.placeOf(i);
            case 5: return doll.spotsOf(i);
            case 6: return doll.holdOf(doll.now, i);
            default: return refuse(BAD);
        }
    }

    public int seen(int spot) {
        if (!within(spot, 0, SPOTS - 1)) {
            return refuse(BAD);
        }
        Wear now = doll.now;
        for (int place = now.onCount - 1; place >= 0; place--) {
            if ((doll.spotsOf(now.on[place]) >> spot & 1) == 1) {
                return now.on[place];
            }
        }
        return NONE;
    }

    // ---- what goes

    public int can() {
        return doll.setThatMay(doll.now, PUT);
    }

    public int off() {
        return doll.setThatMay(doll.now, TAKE);
    }

    public int going(int i) {
        if (!doll.has(i)) {
            return refuse(BAD);
        }
        return doll.matchesOf(i);
    }

    public int outfits(int k) {
        if (k < HOW_MANY) {
            return refuse(BAD);
        }
        wardrobe.findOutfits(doll);
        if (k == HOW_MANY) {
            return wardrobe.found;
        }
        return k < wardrobe.found ? wardrobe.sets[k] : NOT_SO_MANY;
    }

    public int lean(int what) {
        if (!within(what, 0, 1)) {
            return refuse(BAD);
        }
        wardrobe.findOutfits(doll);
        int least = wardrobe.smallest();
        if (least == NONE) {
            return NONE;
        }
        return what == 0 ? Integer.bitCount(least) : least;
    }

    public int days() {
        wardrobe.findOutfits(doll);
        return wardrobe.mostApart();
    }

    public int spared() {
        wardrobe.findOutfits(doll);
        return doll.allPieces() & ~wardrobe.used();
    }

    public int few(int k) {
        if (k < HOW_MANY) {
            return refuse(BAD);
        }
        int moves = moveSearch.fewest(doll);
        if (moves == NONE) {
            return NO_ROW;
        }
        if (k == HOW_MANY) {
            return moves;
        }
        return k < moves ? moveSearch.row[k] : NOT_SO_MANY;
    }

    // ---- what it is

    public int note(int a, int b, int went) {
        if (!within(a, 0, COLOURS - 1) || !within(b, a, COLOURS - 1) || !within(went, 0, 1)) {
            return refuse(BAD);
        }
        if (doll.noteCount >= MOST_NOTES) {
            return refuse(FULL);
        }
        doll.addNote(a, b, went);
        return doll.noteCount;
    }

    public int mark(int i, int p, int n, int x) {
        if (!doll.has(i) || !within(p, 1, MOST_PAPER) || !within(n, 0, MOST_WORN)
                || !within(x, LEAST_HELD, MOST_HELD)) {
            return refuse(BAD);
        }
        if (doll.markCount >= MOST_NOTES) {
            return refuse(FULL);
        }
        doll.addMark(i, p, n, x);
        return doll.markCount;
    }

    public int forget(int what) {
        if (!within(what, 0, 1)) {
            return refuse(BAD);
        }
        int were;
        if (what == 0) {
            were = doll.noteCount;
            doll.noteCount = 0;
        } else {
            were = doll.markCount;
            doll.markCount = 0;
        }
        return were;
    }

    public int is() {
        return Guess.childKinds(doll);
    }

    public int look() {
        return Guess.bestPair(Guess.childKinds(doll));
    }

    public int kinds(int i) {
        if (!doll.has(i)) {
            return refuse(BAD);
        }
        return Guess.clothKinds(doll, i);
    }

    public int ask(int i) {
        if (!doll.has(i)) {
            return refuse(BAD);
        }
        return Guess.bestWear(Guess.clothKinds(doll, i), doll.paper[i]);
    }

    public int two(int k) {
        if (k < HOW_MANY) {
            return refuse(BAD);
        }
        int able = doll.setThatMay(doll.now, PUT);
        int free = doll.allPieces() & ~doll.now.onSet();
        int found = 0;
        for (int i = 0; i < doll.pieces; i++) {
            for (int j = 0; j < doll.pieces; j++) {
                if (Game.rests(doll, able, free, i, j)) {
                    if (found == k) {
                        return 10 * i + j;
                    }
                    found++;
                }
            }
        }
        return k == HOW_MANY ? found : NOT_SO_MANY;
    }

    public int luck(int n) {
        if (!within(n, 0, MOST_LUCK)) {
            return refuse(BAD);
        }
        int on = doll.now.onSet();
        int free = doll.allPieces() & ~on;
        int able = doll.setThatMay(doll.now, PUT);
        int drawn = Math.min(n, Integer.bitCount(free));
        int good = 0;
        int all = 0;
        // A piece that is put on changes its own WORN alone, so whether a row succeeds is
        // the same for all orders of its pieces: sets may be counted in place of rows.
        for (int set = 0; set < ALL_SETS; set++) {
            if ((set & ~free) == 0 && Integer.bitCount(set) == drawn) {
                all++;
                if ((set & ~able) == 0 && doll.spotsOfSet(set | on) == ALL_SPOTS && doll.allMatch(set)) {
                    good++;
                }
            }
        }
        setFraction(good, all);
        return 1;
    }

    public int evenings(int seed, int n) {
        if (!within(seed, 0, MOST_SEED) || !within(n, 0, MOST_EVENINGS)) {
            return refuse(BAD);
        }
        trial.copyFrom(doll.now);
        long x = seed;
        int dressed = 0;
        for (int evening = 0; evening < n; evening++) {
            x = (x * 1103515245L + 12345L) % 2147483648L;
            doll.playWith(trial, (int) (x / 65536L % 8L));
            if (doll.isDressed(trial)) {
                dressed++;
            }
        }
        return dressed;
    }

    // ---- what there is

    public long part(int what) {
        if (!within(what, 0, 1)) {
            return refuse(BAD);
        }
        return what == 0 ? above : below;
    }

    public int image(int i) {
        if (!within(i, 0, MOST_IMAGES - 1)) {
            return refuse(BAD);
        }
        images[i].copyFrom(doll);
        imageKept[i] = true;
        return 1;
    }

    public int from(int i) {
        if (!within(i, 0, MOST_IMAGES - 1)) {
            return refuse(BAD);
        }
        if (!imageKept[i]) {
            return refuse(NO);
        }
        doll.copyFrom(images[i]);
        return 1;
    }

    public int status(int what) {
        switch (what) {
            case 0: return refusedBad;
            case 1: return refusedNo;
            case 2: return refusedFull;
            default:
                refuse(BAD);
                return NO_SUCH_STATUS;
        }
    }

    public int count(int what) {
        if (!within(what, 0, 10)) {
            return refuse(BAD);
        }
        return countOf(what);
    }

    public long digest() {
        long h = 1867;
        for (int what = 0; what <= 10; what++) {
            h = 31 * h + countOf(what);
        }
        h = doll.digestOn(h);
        h = 31 * h + above;
        return 31 * h + below;
    }

    private static boolean within(int number, int least, int most) {
        return number >= least && number <= most;
    }

    private int refuse(int reason) {
        if (reason == BAD) {
            refusedBad++;
        } else if (reason == NO) {
            refusedNo++;
        } else {
            refusedFull++;
        }
        return reason;
    }

    private int whyNoMove(int what, int i) {
        if (!doll.has(i)) {
            return BAD;
        }
        if (doll.now.moves >= MOST_MOVES || !doll.mayMove(doll.now, what, i)) {
            return NO;
        }
        return ALLOWED;
    }

    private int countOf(int what) {
        switch (what) {
            case 0: return doll.pieces;
            case 1: return doll.now.onCount;
            case 2: return doll.now.moves;
            case 3: return doll.spotsOfSet(doll.now.onSet());
            case 4: return doll.isDressed(doll.now) ? 1 : 0;
            case 5: return doll.now.wornTogether();
            case 6: return doll.childKind;
            case 7: return doll.noteCount;
            case 8: return doll.markCount;
            case 9: return doll.pastCount;
            default: return textLength;
        }
    }

    private void setFraction(int good, int all) {
        above = 0;
        below = 1;
        for (int divisor = all; divisor >= 1; divisor--) {
            if (good % divisor == 0 && all % divisor == 0) {
                above = good / divisor;
                below = all / divisor;
                return;
            }
        }
    }

    /** The KINDS of pieces: each is told by the one it stands under. */
    private static final class Cloth {
        static final int SHIRT = 0;
        static final int COAT = 1;
        static final int CLOAK = 2;
        static final int HAT = 3;
        static final int BOOTS = 4;
        static final int SUIT = 5;

        static int covers(int kind) {
            int coat = BODY | LEGS;
            switch (kind) {
                case SHIRT: return BODY;
                case COAT: return coat;
                case CLOAK: return coat | HEAD;
                case HAT: return HEAD;
                case BOOTS: return FEET;
                case SUIT: return coat | FEET;
                default: return 0;
            }
        }

        static int holds(int kind, int paper, int worn) {
            int shirt = paper - worn / 3;
            int coat = shirt - 1;
            int hat = shirt + 2;
            switch (kind) {
                case SHIRT: return shirt;
                case COAT: return coat;
                case CLOAK: return coat;
                case HAT: return hat;
                case BOOTS: return hat - worn;
                case SUIT: return 2 * coat;
                default: return 0;
            }
        }
    }

    /** The KINDS of children: each is told by the one it stands under. */
    private static final class Taste {
        static final int PLAIN = 0;
        static final int STRICT = 1;
        static final int GAUDY = 2;
        static final int PAIRS = 3;
        static final int WINTRY = 4;
        static final int FREE = 5;

        static boolean allows(int kind, int one, int other) {
            int a = one < other ? one : other;
            int b = one < other ? other : one;
            boolean strict = b == a;
            boolean plain = strict || b == a + 1;
            switch (kind) {
                case PLAIN: return plain;
                case STRICT: return strict;
                case GAUDY: return !plain;
                case PAIRS: return strict || a + b == 3;
                case WINTRY: return plain && b != 3;
                case FREE: return !plain || a == 0;
                default: return false;
            }
        }
    }

    /** What a move changes, and UNDO brings back: the pieces ON from the lowest up, WORN, MOVES. */
    private static final class Wear {
        final int[] on = new int[MOST_PIECES];
        final int[] worn = new int[MOST_PIECES];
        int onCount;
        int moves;

        void begin() {
            onCount = 0;
            moves = 0;
            for (int i = 0; i < MOST_PIECES; i++) {
                worn[i] = 0;
            }
        }

        void copyFrom(Wear other) {
            System.arraycopy(other.on, 0, on, 0, MOST_PIECES);
            System.arraycopy(other.worn, 0, worn, 0, MOST_PIECES);
            onCount = other.onCount;
            moves = other.moves;
        }

        int placeOf(int i) {
            for (int place = 0; place < onCount; place++) {
                if (on[place] == i) {
                    return place;
                }
            }
            return NONE;
        }

        int onSet() {
            int set = 0;
            for (int place = 0; place < onCount; place++) {
                set |= 1 << on[place];
            }
            return set;
        }

        int wornTogether() {
            int sum = 0;
            for (int i = 0; i < MOST_PIECES; i++) {
                sum += worn[i];
            }
            return sum;
        }

        void layOver(int i) {
            if (onCount < MOST_PIECES) {
                on[onCount] = i;
                onCount++;
                worn[i]++;
            }
        }

        void pullOut(int i) {
            int place = placeOf(i);
            if (place == NONE) {
                return;
            }
            onCount--;
            for (int p = place; p < onCount; p++) {
                on[p] = on[p + 1];
            }
        }
    }

    /** All that an image keeps. */
    private static final class Doll {
        int childKind;
        int pieces;
        final int[] kind = new int[MOST_PIECES];
        final int[] colour = new int[MOST_PIECES];
        final int[] paper = new int[MOST_PIECES];
        final Wear now = new Wear();
        final Wear[] past = new Wear[MOST_UNDONE];
        int pastCount;
        final int[] notes = new int[MOST_NOTES * NOTE_SIZE];
        int noteCount;
        final int[] marks = new int[MOST_NOTES * MARK_SIZE];
        int markCount;

        Doll() {
            for (int i = 0; i < MOST_UNDONE; i++) {
                past[i] = new Wear();
            }
        }

        void begin(int newChild) {
            childKind = newChild;
            pieces = 0;
            now.begin();
            pastCount = 0;
            noteCount = 0;
            markCount = 0;
        }

        void copyFrom(Doll other) {
            childKind = other.childKind;
            pieces = other.pieces;
            System.arraycopy(other.kind, 0, kind, 0, MOST_PIECES);
            System.arraycopy(other.colour, 0, colour, 0, MOST_PIECES);
            System.arraycopy(other.paper, 0, paper, 0, MOST_PIECES);
            now.copyFrom(other.now);
            pastCount = other.pastCount;
            for (int i = 0; i < pastCount; i++) {
                past[i].copyFrom(other.past[i]);
            }
            noteCount = other.noteCount;
            System.arraycopy(other.notes, 0, notes, 0, MOST_NOTES * NOTE_SIZE);
            markCount = other.markCount;
            System.arraycopy(other.marks, 0, marks, 0, MOST_NOTES * MARK_SIZE);
        }

        boolean has(int i) {
            return i >= 0 && i < pieces;
        }

        int allPieces() {
            return (1 << pieces) - 1;
        }

        void addPiece(int newKind, int newColour, int newPaper) {
            if (pieces < MOST_PIECES) {
                kind[pieces] = newKind;
                colour[pieces] = newColour;
                paper[pieces] = newPaper;
                pieces++;
                pastCount = 0;
            }
        }

        void addNote(int a, int b, int went) {
            if (noteCount < MOST_NOTES) {
                int at = noteCount * NOTE_SIZE;
                notes[at] = a;
                notes[at + 1] = b;
                notes[at + 2] = went;
                noteCount++;
            }
        }

        void addMark(int i, int p, int n, int x) {
            if (markCount < MOST_NOTES) {
                int at = markCount * MARK_SIZE;
                marks[at] = i;
                marks[at + 1] = p;
                marks[at + 2] = n;
                marks[at + 3] = x;
                markCount++;
            }
        }

        int spotsOf(int i) {
            return has(i) ? Cloth.covers(kind[i]) : 0;
        }

        int spotsOfSet(int set) {
            int spots = 0;
            for (int i = 0; i < pieces; i++) {
                if ((set >> i & 1) == 1) {
                    spots |= Cloth.covers(kind[i]);
                }
            }
            return spots;
        }

        boolean isDressed(Wear wear) {
            return spotsOfSet(wear.onSet()) == ALL_SPOTS;
        }

        int holdOf(Wear wear, int i) {
            return has(i) ? Cloth.holds(kind[i], paper[i], wear.worn[i]) : 0;
        }

        boolean match(int i, int j) {
            return has(i) && has(j) && Taste.allows(childKind, colour[i], colour[j]);
        }

        int matchesOf(int i) {
            int set = 0;
            for (int j = 0; j < pieces; j++) {
                if (match(i, j)) {
                    set |= 1 << j;
                }
            }
            return set;
        }

        boolean allMatch(int set) {
            for (int i = 0; i < pieces; i++) {
                // A piece need not go with itself.
                if ((set >> i & 1) == 1 && (set & ~(1 << i) & ~matchesOf(i)) != 0) {
                    return false;
                }
            }
            return true;
        }

        boolean mayMove(Wear wear, int what, int i) {
            if (!has(i)) {
                return false;
            }
            switch (what) {
                case PUT: return mayPut(wear, i);
                case TAKE: return mayTake(wear, i);
                case MEND: return wear.worn[i] > 0;
                default: return false;
            }
        }

        private boolean mayPut(Wear wear, int i) {
            if (wear.placeOf(i) != NONE || Cloth.holds(kind[i], paper[i], wear.worn[i]) < 1) {
                return false;
            }
            for (int place = 0; place < wear.onCount; place++) {
                if (!Taste.allows(childKind, colour[i], colour[wear.on[place]])) {
                    return false;
                }
            }
            return true;
        }

        private boolean mayTake(Wear wear, int i) {
            int place = wear.placeOf(i);
            if (place == NONE) {
                return false;
            }
            int spots = spotsOf(i);
            for (int over = place + 1; over < wear.onCount; over++) {
                if ((spotsOf(wear.on[over]) & spots) != 0) {
                    return false;
                }
            }
            return true;
        }

        int setThatMay(Wear wear, int what) {
            int set = 0;
            for (int i = 0; i < pieces; i++) {
                if (mayMove(wear, what, i)) {
                    set |= 1 << i;
                }
            }
            return set;
        }

        /** A move that may be made: the caller has asked mayMove. */
        void move(Wear wear, int what, int i) {
            if (!has(i)) {
                return;
            }
            if (what == PUT) {
                wear.layOver(i);
            } else if (what == TAKE) {
                wear.pullOut(i);
            } else {
                wear.worn[i] = 0;
            }
            wear.moves++;
        }

        void moveForGood(int what, int i) {
            keepPast();
            move(now, what, i);
        }

        private void keepPast() {
            if (pastCount >= MOST_UNDONE) {
                Wear oldest = past[0];
                for (int p = 1; p < MOST_UNDONE; p++) {
                    past[p - 1] = past[p];
                }
                past[MOST_UNDONE - 1] = oldest;
                pastCount = MOST_UNDONE - 1;
            }
            past[pastCount].copyFrom(now);
            pastCount++;
        }

        void bringBack() {
            if (pastCount > 0) {
                pastCount--;
                now.copyFrom(past[pastCount]);
            }
        }

        void playWith(Wear wear, int i) {
            if (mayMove(wear, PUT, i)) {
                move(wear, PUT, i);
            } else if (mayMove(wear, TAKE, i)) {
                move(wear, TAKE, i);
            } else {
                move(wear, MEND, i);
            }
        }

        long digestOn(long start) {
            long h = start;
            for (int i = 0; i < pieces; i++) {
                h = 31 * h + kind[i];
                h = 31 * h + colour[i];
                h = 31 * h + paper[i];
                h = 31 * h + now.worn[i];
            }
            for (int place = 0; place < now.onCount; place++) {
                h = 31 * h + now.on[place];
            }
            for (int at = 0; at < noteCount * NOTE_SIZE; at++) {
                h = 31 * h + notes[at];
            }
            for (int at = 0; at < markCount * MARK_SIZE; at++) {
                h = 31 * h + marks[at];
            }
            return h;
        }
    }

    /** Tells a doll by a text; the token that can not stand there is the one it stopped at. */
    private static final class Reader {
        private static final int END = 0;
        private static final int WORD = 1;
        private static final int NUMBER = 2;
        private static final int SEMICOLON = 3;
        private static final int OTHER = 4;
        private static final int FAULT_BASE = -200;

        private byte[] bytes = new byte[0];
        private int length;
        private int token;
        private int start;
        private int stop;
        private int number;

        /** How many items the doll was told by, or -200 less the fault; a faulty doll is half told. */
        int readDoll(byte[] source, int sourceLength, Doll doll) {
            bytes = source;
            length = Math.min(sourceLength, source.length);
            stop = 0;
            doll.begin(0);
            int items = 0;
            advance();
            do {
                if (!readItem(doll, items == 0)) {
                    return FAULT_BASE - start;
                }
                items++;
                advance();
            } while (token != END && items < length);
            return items;
        }

        private boolean readItem(Doll doll, boolean first) {
            if (token != WORD || isWord("doll") != first) {
                return false;
            }
            boolean told;
            if (first) {
                told = readChild(doll);
            } else if (isWord("piece")) {
                told = doll.pieces < MOST_PIECES && readPiece(doll);
            } else if (isWord("on")) {
                told = readMove(doll, PUT);
            } else if (isWord("off")) {
                told = readMove(doll, TAKE);
            } else {
                told = isWord("mend") && readMove(doll, MEND);
            }
            if (!told) {
                return false;
            }
            advance();
            return token == SEMICOLON;
        }

        private boolean readChild(Doll doll) {
            if (!readNumber(0, KINDS - 1)) {
                return false;
            }
            doll.childKind = number;
            return true;
        }

        private boolean readPiece(Doll doll) {
            if (!readNumber(0, KINDS - 1)) {
                return false;
            }
            int kind = number;
            if (!readNumber(0, COLOURS - 1)) {
                return false;
            }
            int colour = number;
            if (!readNumber(1, MOST_PAPER)) {
                return false;
            }
            doll.addPiece(kind, colour, number);
            return true;
        }

        private boolean readMove(Doll doll, int what) {
            if (!readNumber(0, doll.pieces - 1) || !doll.mayMove(doll.now, what, number)) {
                return false;
            }
            doll.move(doll.now, what, number);
            return true;
        }

        private boolean readNumber(int least, int most) {
            advance();
            return token == NUMBER && within(number, least, most);
        }

        private boolean isWord(String word) {
            if (stop > length || stop - start != word.length()) {
                return false;
            }
            for (int i = 0; i < word.length(); i++) {
                if (bytes[start + i] != word.charAt(i)) {
                    return false;
                }
            }
            return true;
        }

        private void advance() {
            start = stop;
            while (start < length && bytes[start] == ' ') {
                start++;
            }
            stop = start;
            if (start >= length) {
                token = END;
            } else if (within(bytes[start], 'a', 'z')) {
                advanceOverWord();
            } else if (within(bytes[start], '0', '9')) {
                advanceOverNumber();
            } else {
                token = bytes[start] == ';' ? SEMICOLON : OTHER;
                stop = start + 1;
            }
        }

        private void advanceOverWord() {
            while (stop < length && within(bytes[stop], 'a', 'z')) {
                stop++;
            }
            token = WORD;
        }

        private void advanceOverNumber() {
            number = 0;
            while (stop < length && within(bytes[stop], '0', '9')) {
                // Three figures or more are no number: what they come to is never used.
                number = number * 10 + bytes[stop] - '0';
                stop++;
            }
            token = stop - start <= 2 ? NUMBER : OTHER;
        }
    }

    /** The outfits of a doll. */
    private static final class Wardrobe {
        // No outfit is part of another one, and of eight pieces there are never more such sets.
        private static final int MOST_OUTFITS = 70;

        final int[] sets = new int[MOST_OUTFITS];
        int found;

        void findOutfits(Doll doll) {
            found = 0;
            int holding = 0;
            for (int i = 0; i < doll.pieces; i++) {
                if (doll.holdOf(doll.now, i) >= 1) {
                    holding |= 1 << i;
                }
            }
            for (int set = 1; set < ALL_SETS; set++) {
                if ((set & ~holding) == 0 && found < MOST_OUTFITS && isOutfit(doll, set)) {
                    sets[found] = set;
                    found++;
                }
            }
        }

        private static boolean isOutfit(Doll doll, int set) {
            if (doll.spotsOfSet(set) != ALL_SPOTS) {
                return false;
            }
            for (int i = 0; i < doll.pieces; i++) {
                if ((set >> i & 1) == 1 && doll.spotsOfSet(set & ~(1 << i)) == ALL_SPOTS) {
                    return false;
                }
            }
            return doll.allMatch(set);
        }

        int smallest() {
            int best = NONE;
            for (int k = 0; k < found; k++) {
                if (best == NONE || Integer.bitCount(sets[k]) < Integer.bitCount(best)) {
                    best = sets[k];
                }
            }
            return best;
        }

        int used() {
            int all = 0;
            for (int k = 0; k < found; k++) {
                all |= sets[k];
            }
            return all;
        }

        /** The most outfits of which no two have a piece in common. */
        int mostApart() {
            return mostApartFrom(0, 0, 0);
        }

        private int mostApartFrom(int k, int taken, int depth) {
            int most = 0;
            if (depth < MOST_PIECES) {
                for (int next = k; next < found; next++) {
                    if ((sets[next] & taken) == 0) {
                        most = Math.max(most, 1 + mostApartFrom(next + 1, taken | sets[next], depth + 1));
                    }
                }
            }
            return most;
        }
    }

    /** The fewest moves by which a doll is dressed. */
    private static final class MoveSearch {
        private static final int MOST_FEW = 3;

        final int[] row = new int[MOST_FEW];
        private final Wear[] behind = new Wear[MOST_FEW];

        MoveSearch() {
            for (int i = 0; i < MOST_FEW; i++) {
                behind[i] = new Wear();
            }
        }

        /** How many; the first such row is in row. */
        int fewest(Doll doll) {
            if (doll.isDressed(doll.now)) {
                return 0;
            }
            for (int moves = 1; moves <= MOST_FEW; moves++) {
                if (dresses(doll, doll.now, 0, moves)) {
                    return moves;
                }
            }
            return NONE;
        }

        private boolean dresses(Doll doll, Wear wear, int depth, int moves) {
            if (depth < 0 || depth >= moves || depth >= MOST_FEW) {
                return false;
            }
            if (depth == moves - 1) {
                return dressesAtLast(doll, wear, depth);
            }
            Wear next = behind[depth];
            for (int what = PUT; what <= MEND; what++) {
                for (int i = 0; i < doll.pieces; i++) {
                    if (doll.mayMove(wear, what, i)) {
                        next.copyFrom(wear);
                        doll.move(next, what, i);
                        row[depth] = 10 * what + i;
                        if (dresses(doll, next, depth + 1, moves)) {
                            return true;
                        }
                    }
                }
            }
            return false;
        }

        // No fewer moves were enough, so the last one covers a spot: it puts a piece on.
        private boolean dressesAtLast(Doll doll, Wear wear, int depth) {
            int on = wear.onSet();
            for (int i = 0; i < doll.pieces; i++) {
                if (doll.spotsOfSet(on | 1 << i) == ALL_SPOTS && doll.mayMove(wear, PUT, i)) {
                    row[depth] = 10 * PUT + i;
                    return true;
                }
            }
            return false;
        }
    }

    /** Which kinds fit the notes and marks, and what to look at next. */
    private static final class Guess {
        static int childKinds(Doll doll) {
            int fitting = 0;
            for (int kind = 0; kind < KINDS; kind++) {
                if (fitsNotes(doll, kind)) {
                    fitting |= 1 << kind;
                }
            }
            return fitting;
        }

        private static boolean fitsNotes(Doll doll, int kind) {
            for (int k = 0; k < doll.noteCount; k++) {
                int at = k * NOTE_SIZE;
                boolean went = doll.notes[at + 2] == 1;
                if (Taste.allows(kind, doll.notes[at], doll.notes[at + 1]) != went) {
                    return false;
                }
            }
            return true;
        }

        static int bestPair(int fitting) {
            int best = NONE;
            int least = KINDS + 1;
            if (fitting == 0) {
                return NONE;
            }
            for (int a = 0; a < COLOURS; a++) {
                for (int b = a; b < COLOURS; b++) {
                    int part = greaterPart(fitting, a, b);
                    if (part < least) {
                        least = part;
                        best = 10 * a + b;
                    }
                }
            }
            return best;
        }

        private static int greaterPart(int fitting, int a, int b) {
            int go = 0;
            for (int kind = 0; kind < KINDS; kind++) {
                if ((fitting >> kind & 1) == 1 && Taste.allows(kind, a, b)) {
                    go++;
                }
            }
            return Math.max(go, Integer.bitCount(fitting) - go);
        }

        static int clothKinds(Doll doll, int i) {
            int fitting = 0;
            for (int kind = 0; kind < KINDS; kind++) {
                if (fitsMarks(doll, i, kind)) {
                    fitting |= 1 << kind;
                }
            }
            return fitting;
        }

        private static boolean fitsMarks(Doll doll, int i, int kind) {
            for (int k = 0; k < doll.markCount; k++) {
                int at = k * MARK_SIZE;
                if (doll.marks[at] == i
                        && Cloth.holds(kind, doll.marks[at + 1], doll.marks[at + 2]) != doll.marks[at + 3]) {
                    return false;
                }
            }
            return true;
        }

        static int bestWear(int fitting, int paper) {
            int best = NONE;
            int least = KINDS + 1;
            if (fitting == 0) {
                return NONE;
            }
            for (int worn = 0; worn <= MOST_ASKED; worn++) {
                int alike = mostAlike(fitting, paper, worn);
                if (alike < least) {
                    least = alike;
                    best = worn;
                }
            }
            return best;
        }

        private static int mostAlike(int fitting, int paper, int worn) {
            int most = 0;
            for (int kind = 0; kind < KINDS; kind++) {
                if ((fitting >> kind & 1) == 1) {
                    most = Math.max(most, howManyHold(fitting, paper, worn, Cloth.holds(kind, paper, worn)));
                }
            }
            return most;
        }

        private static int howManyHold(int fitting, int paper, int worn, int held) {
            int alike = 0;
            for (int kind = 0; kind < KINDS; kind++) {
                if ((fitting >> kind & 1) == 1 && Cloth.holds(kind, paper, worn) == held) {
                    alike++;
                }
            }
            return alike;
        }
    }

    /** Two children at one doll; able are the pieces that could be put on now, free those not ON. */
    private static final class Game {
        static boolean rests(Doll doll, int able, int free, int i, int j) {
            return (free >> i & 1) == 1 && (free >> j & 1) == 1
                    && noneIsBetter(doll, able, free, i, j) && noneIsBetter(doll, able, free, j, i);
        }

        private static boolean noneIsBetter(Doll doll, int able, int free, int own, int other) {
            int gets = gain(doll, able, own, other);
            for (int another = 0; another < doll.pieces; another++) {
                if ((free >> another & 1) == 1 && gain(doll, able, another, other) > gets) {
                    return false;
                }
            }
            return true;
        }

        private static int gain(Doll doll, int able, int own, int other) {
            if (own == other) {
                return -2;
            }
            if ((able >> own & 1) == 0) {
                return 0;
            }
            if ((able >> other & 1) == 1 && !doll.match(own, other)) {
                return -1;
            }
            int spots = doll.spotsOf(own);
            return Integer.bitCount(spots) + Integer.bitCount(spots & ~doll.spotsOf(other));
        }
    }
}
