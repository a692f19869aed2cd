import java.util.ArrayDeque;
import java.util.ArrayList;
import java.util.Arrays;
import java.util.List;
import java.util.Random;
import java.util.regex.Matcher;
import java.util.regex.Pattern;

/** Random runs, by fixed seeds, of PaperDolls beside a slow model that follows the document's words one by one. */
public final class ModelTest {
    private static final int RUNS = 1500;
    // An object is used for 512 calls; what is asked at once is never more than twelve of them.
    private static final int CALLS = 500;

    private static int wrong = 0;

    public static void main(String[] args) {
        for (int seed = 0; seed < RUNS && wrong < 20; seed++) {
            new Run(seed).go();
        }
        System.out.println(wrong == 0 ? "the model agrees" : wrong + " answers differ from the model's");
        System.exit(wrong == 0 ? 0 : 1);
    }

    private static final class Run {
        final int seed;
        final Random random;
        final PaperDolls doll = new PaperDolls();
        final Model model = new Model();
        int hiddenKind = 0;
        int calls = 0;

        Run(int seed) {
            this.seed = seed;
            this.random = new Random(seed);
        }

        void go() {
            while (calls < CALLS) {
                if (random.nextInt(60) == 0) {
                    tellText();
                } else {
                    someCalls();
                }
            }
        }

        void tellText() {
            String text = TextMaker.make(random);
            if (text.length() + 3 > CALLS - calls) {
                return;
            }
            check("clear", doll.clear(), model.clear());
            for (int i = 0; i < text.length(); i++) {
                check("type", doll.type(text.charAt(i)), model.type(text.charAt(i)));
            }
            check("read \"" + text + "\"", doll.read(), model.read());
            check("digest", doll.digest(), model.digest());
        }

        void check(String call, long got, long want) {
            calls++;
            if (got != want) {
                wrong++;
                System.out.println("seed " + seed + ": " + call + " answered " + got + ", the model says " + want);
            }
        }

        /** Mostly a number as told, now and then one just beside. */
        int number(int least, int most) {
            if (random.nextInt(25) == 0) {
                int[] odd = {least - 1, most + 1, Integer.MIN_VALUE, Integer.MAX_VALUE};
                return odd[random.nextInt(odd.length)];
            }
            return least + random.nextInt(most - least + 1);
        }

        int pieceNumber() {
            return number(0, Math.max(0, model.now.pieces.size() - 1));
        }

        void someCalls() {
            int what = random.nextInt(100);
            if (what < 34) {
                moveCall(what);
            } else if (what < 50) {
                buildCall(what);
            } else if (what < 78) {
                askCall(what);
            } else {
                stateCall(what);
            }
        }

        void moveCall(int what) {
            int i = pieceNumber();
            if (what < 18) {
                check("puts " + i, doll.puts(i), model.puts(i));
            } else if (what < 25) {
                check("takes " + i, doll.takes(i), model.takes(i));
            } else if (what < 30) {
                check("mends " + i, doll.mends(i), model.mends(i));
            } else {
                check("undo", doll.undo(), model.undo());
            }
        }

        void buildCall(int what) {
            if (what < 44) {
                int kind = number(0, 5);
                int colour = random.nextInt(3) > 0 ? random.nextInt(2) : number(0, 3);
                int paper = number(1, 9);
                check("piece", doll.piece(kind, colour, paper), model.piece(kind, colour, paper));
            } else if (what < 46) {
                int kind = number(0, 5);
                check("child", doll.child(kind), model.child(kind));
            } else if (what == 46 && random.nextInt(4) == 0) {
                int kind = number(0, 5);
                check("doll", doll.doll(kind), model.doll(kind));
            } else if (what == 47) {
                int c = number(0, 127);
                check("type", doll.type(c), model.type(c));
            } else if (what == 48 && random.nextInt(4) == 0) {
                check("read", doll.read(), model.read());
            } else {
                check("digest", doll.digest(), model.digest());
            }
        }

        void askCall(int what) {
            int k = number(-1, random.nextInt(4) == 0 ? 12 : 2);
            int i = pieceNumber();
            switch (what - 50) {
                case 0: check("can", doll.can(), model.can()); break;
                case 1: check("off", doll.off(), model.off()); break;
                case 2: check("going", doll.going(i), model.going(i)); break;
                case 3: case 4: check("outfits " + k, doll.outfits(k), model.outfits(k)); break;
                case 5: check("lean", doll.lean(k), model.lean(k)); break;
                case 6: check("days", doll.days(), model.days()); break;
                case 7: check("spared", doll.spared(), model.spared()); break;
                case 8: case 9: check("few " + k, doll.few(k), model.few(k)); break;
                case 10: check("is", doll.is(), model.is()); break;
                case 11: check("look", doll.look(), model.look()); break;
                case 12: check("kinds", doll.kinds(i), model.kinds(i)); break;
                case 13: check("ask", doll.ask(i), model.ask(i)); break;
                case 14: case 15: check("two " + k, doll.two(k), model.two(k)); break;
                case 16: case 17: luck(); break;
                case 18: evenings(); break;
                case 19: note(); break;
                case 20: case 21: mark(i); break;
                case 22: forget(); break;
                case 23: int spot = number(0, 3); check("seen", doll.seen(spot), model.seen(spot)); break;
                default: int w = number(0, 6); check("of " + i + " " + w, doll.of(i, w), model.of(i, w)); break;
            }
        }

        void luck() {
            int n = number(0, 4);
            check("luck " + n, doll.luck(n), model.luck(n));
            check("part 0", doll.part(0), model.part(0));
            check("part 1", doll.part(1), model.part(1));
        }

        void evenings() {
            int seedOfDays = number(0, 999999);
            int n = number(0, 60);
            check("evenings", doll.evenings(seedOfDays, n), model.evenings(seedOfDays, n));
        }

        void note() {
            int a = number(0, 3);
            int b = number(0, 3);
            int went = number(0, 1);
            if (random.nextInt(8) > 0 && a <= b && went >= 0 && went <= 1) {
                went = Model.go(hiddenKind, a, b) ? 1 : 0;
            }
            check("note", doll.note(a, b, went), model.note(a, b, went));
        }

        void mark(int i) {
            int p = number(1, 9);
            int n = random.nextBoolean() ? number(0, 99) : number(0, 9);
            int x = number(-99, 40);
            if (random.nextInt(8) > 0) {
                x = Model.hold(hiddenKind, p, n);
            }
            check("mark", doll.mark(i, p, n, x), model.mark(i, p, n, x));
        }

        void forget() {
            int what = number(0, 1);
            hiddenKind = random.nextInt(6);
            check("forget", doll.forget(what), model.forget(what));
        }

        void stateCall(int what) {
            if (what < 80) {
                int i = number(0, 1);
                check("image", doll.image(i), model.image(i));
            } else if (what < 82) {
                int i = number(0, 1);
                check("from", doll.from(i), model.from(i));
            } else if (what < 86) {
                int w = number(0, 2);
                check("status " + w, doll.status(w), model.status(w));
            } else if (what < 88) {
                int w = number(0, 1);
                check("part", doll.part(w), model.part(w));
            } else if (what < 94) {
                int w = number(0, 10);
                check("count " + w, doll.count(w), model.count(w));
            } else {
                check("digest", doll.digest(), model.digest());
            }
        }
    }

    /** Texts that are mostly right, with a slip now and then. */
    private static final class TextMaker {
        static String make(Random random) {
            StringBuilder text = new StringBuilder();
            text.append(random.nextInt(12) == 0 ? " doll" : "doll ").append(random.nextInt(6)).append(';');
            int pieces = 0;
            int items = random.nextInt(14);
            for (int n = 0; n < items && text.length() < 135; n++) {
                if (pieces == 0 || random.nextInt(3) > 0 && pieces < 9) {
                    text.append("piece ").append(random.nextInt(6)).append(' ').append(random.nextInt(2));
                    text.append(random.nextInt(15) == 0 ? "  0" : " ").append(1 + random.nextInt(9)).append(';');
                    pieces++;
                } else {
                    String[] words = {"on ", "on ", "on ", "off ", "mend ", "mend"};
                    text.append(words[random.nextInt(words.length)]).append(random.nextInt(pieces)).append(';');
                }
            }
            if (random.nextInt(3) == 0) {
                slip(text, random);
            }
            if (text.length() > 150) {
                text.setLength(150);
            }
            return text.toString();
        }

        static void slip(StringBuilder text, Random random) {
            int at = random.nextInt(text.length());
            String signs = " ;0129azdnoABZ\t{`/:-";
            char sign = signs.charAt(random.nextInt(signs.length()));
            switch (random.nextInt(4)) {
                case 0: text.setCharAt(at, sign); break;
                case 1: text.insert(at, sign); break;
                case 2: text.deleteCharAt(at); break;
                default: text.setLength(at); break;
            }
        }
    }

    private static final class Piece {
        int kind;
        int colour;
        int paper;
        int worn;

        Piece(int kind, int colour, int paper, int worn) {
            this.kind = kind;
            this.colour = colour;
            this.paper = paper;
            this.worn = worn;
        }
    }

    /** What images keep, but for what may be undone. */
    private static final class State {
        int child;
        int moves;
        List<Piece> pieces = new ArrayList<>();
        List<Integer> on = new ArrayList<>();
        List<int[]> notes = new ArrayList<>();
        List<int[]> marks = new ArrayList<>();

        State copy() {
            State s = new State();
            s.child = child;
            s.moves = moves;
            for (Piece p : pieces) {
                s.pieces.add(new Piece(p.kind, p.colour, p.paper, p.worn));
            }
            s.on.addAll(on);
            s.notes.addAll(notes);
            s.marks.addAll(marks);
            return s;
        }
    }

    private static final class Model {
        static final int NONE = -101;
        static final String[] COVER = {"B", "BL", "BLH", "H", "F", "BLF"};

        State now = new State();
        ArrayDeque<State> undos = new ArrayDeque<>();
        State[] images = new State[2];
        List<ArrayDeque<State>> imageUndos = new ArrayList<>(Arrays.asList(null, null));
        StringBuilder text = new StringBuilder();
        long above = 0;
        long below = 1;
        int[] refused = new int[3];

        // The kinds, as the document's lines have them.

        static int hold(int kind, int p, int n) {
            switch (kind) {
                case 0: return p - (int) Math.floor(n / 3.0);
                case 1: return hold(0, p, n) - 1;
                case 2: return hold(1, p, n);
                case 3: return hold(0, p, n) + 2;
                case 4: return hold(3, p, n) - n;
                default: return hold(1, p, n) * 2;
            }
        }

        static boolean go(int child, int c, int d) {
            int a = Math.min(c, d);
            int b = Math.max(c, d);
            switch (child) {
                case 0: return b - a < 2;
                case 1: return a == b;
                case 2: return !go(0, a, b);
                case 3: return go(1, a, b) || a + b == 3;
                case 4: return b == 3 ? false : go(0, a, b);
                default: return a == 0 || go(2, a, b);
            }
        }

        boolean coversSpot(int i, int spot) {
            return COVER[now.pieces.get(i).kind].indexOf("HBLF".charAt(spot)) >= 0;
        }

        boolean covered(State s, List<Integer> set) {
            for (int spot = 0; spot < 4; spot++) {
                boolean is = false;
                for (int i : set) {
                    is |= COVER[s.pieces.get(i).kind].indexOf("HBLF".charAt(spot)) >= 0;
                }
                if (!is) {
                    return false;
                }
            }
            return true;
        }

        int refuse(int answer) {
            refused[-102 - answer]++;
            return answer;
        }

        boolean there(int i) {
            return i >= 0 && i < now.pieces.size();
        }

        static boolean in(int x, int least, int most) {
            return least <= x && x <= most;
        }

        static boolean holds(State s, int i) {
            Piece p = s.pieces.get(i);
            return hold(p.kind, p.paper, p.worn) >= 1;
        }

        static boolean goes(State s, int i, int j) {
            return go(s.child, s.pieces.get(i).colour, s.pieces.get(j).colour);
        }

        static boolean mayPut(State s, int i) {
            boolean may = !s.on.contains(i) && holds(s, i);
            for (int j : s.on) {
                may &= goes(s, i, j);
            }
            return may;
        }

        static boolean mayTake(State s, int i) {
            if (!s.on.contains(i)) {
                return false;
            }
            for (int j : s.on.subList(s.on.indexOf(i) + 1, s.on.size())) {
                for (char spot : COVER[s.pieces.get(j).kind].toCharArray()) {
                    if (COVER[s.pieces.get(i).kind].indexOf(spot) >= 0) {
                        return false;
                    }
                }
            }
            return true;
        }

        static boolean may(State s, int what, int i) {
            return what == 0 ? mayPut(s, i) : what == 1 ? mayTake(s, i) : s.pieces.get(i).worn > 0;
        }

        static void move(State s, int what, int i) {
            if (what == 0) {
                s.on.add(i);
                s.pieces.get(i).worn++;
            } else if (what == 1) {
                s.on.remove((Integer) i);
            } else {
                s.pieces.get(i).worn = 0;
            }
            s.moves++;
        }

        // The calls.

        int doll(int kind) {
            if (!in(kind, 0, 5)) {
                return refuse(-102);
            }
            int were = now.pieces.size();
            now = new State();
            now.child = kind;
            undos.clear();
            return were;
        }

        int child(int kind) {
            if (!in(kind, 0, 5)) {
                return refuse(-102);
            }
            int was = now.child;
            now.child = kind;
            undos.clear();
            return was;
        }

        int piece(int kind, int colour, int paper) {
            if (!in(kind, 0, 5) || !in(colour, 0, 3) || !in(paper, 1, 9)) {
                return refuse(-102);
            }
            if (now.pieces.size() == 8) {
                return refuse(-104);
            }
            now.pieces.add(new Piece(kind, colour, paper, 0));
            undos.clear();
            return now.pieces.size() - 1;
        }

        int type(int c) {
            if (!in(c, 0, 127)) {
                return refuse(-102);
            }
            if (text.length() == 150) {
                return refuse(-104);
            }
            text.append((char) c);
            return text.length();
        }

        int clear() {
            int had = text.length();
            text.setLength(0);
            return had;
        }

        int read() {
            TextReader reader = new TextReader(text.toString());
            int answer = reader.read();
            if (answer >= 0) {
                now = reader.state;
                undos.clear();
            }
            return answer;
        }

        int moveCall(int what, int i) {
            if (!there(i)) {
                return refuse(-102);
            }
            if (!may(now, what, i)) {
                return refuse(-103);
            }
            int was = now.pieces.get(i).worn;
            undos.addLast(now.copy());
            if (undos.size() > 8) {
                undos.removeFirst();
            }
            move(now, what, i);
            return what == 2 ? was : now.on.size();
        }

        int puts(int i) {
            return moveCall(0, i);
        }

        int takes(int i) {
            return moveCall(1, i);
        }

        int mends(int i) {
            return moveCall(2, i);
        }

        int undo() {
            if (undos.isEmpty()) {
                return refuse(-103);
            }
            State was = undos.removeLast();
            for (int i = 0; i < now.pieces.size(); i++) {
                now.pieces.get(i).worn = was.pieces.get(i).worn;
            }
            now.on = was.on;
            now.moves = was.moves;
            return now.moves;
        }

        int of(int i, int what) {
            if (!there(i) || !in(what, 0, 6)) {
                return refuse(-102);
            }
            Piece p = now.pieces.get(i);
            int place = now.on.indexOf(i);
            int spots = 0;
            for (int spot = 0; spot < 4; spot++) {
                spots += coversSpot(i, spot) ? 1 << spot : 0;
            }
            int[] all = {p.kind, p.colour, p.paper, p.worn, place < 0 ? NONE : place, spots,
                hold(p.kind, p.paper, p.worn)};
            return all[what];
        }

        int seen(int spot) {
            if (!in(spot, 0, 3)) {
                return refuse(-102);
            }
            int top = NONE;
            for (int i : now.on) {
                top = coversSpot(i, spot) ? i : top;
            }
            return top;
        }

        int can() {
            int set = 0;
            for (int i = 0; i < now.pieces.size(); i++) {
                set += mayPut(now, i) ? 1 << i : 0;
            }
            return set;
        }

        int off() {
            int set = 0;
            for (int i = 0; i < now.pieces.size(); i++) {
                set += mayTake(now, i) ? 1 << i : 0;
            }
            return set;
        }

        int going(int i) {
            if (!there(i)) {
                return refuse(-102);
            }
            int set = 0;
            for (int j = 0; j < now.pieces.size(); j++) {
                set += goes(now, i, j) ? 1 << j : 0;
            }
            return set;
        }

        List<Integer> members(int set) {
            List<Integer> list = new ArrayList<>();
            for (int i = 0; i < now.pieces.size(); i++) {
                if ((set & 1 << i) != 0) {
                    list.add(i);
                }
            }
            return list;
        }

        boolean isOutfit(int set) {
            List<Integer> all = members(set);
            if (!covered(now, all)) {
                return false;
            }
            for (int i : all) {
                for (int j : all) {
                    if (i != j && !goes(now, i, j)) {
                        return false;
                    }
                }
                List<Integer> others = new ArrayList<>(all);
                others.remove((Integer) i);
                if (!holds(now, i) || covered(now, others)) {
                    return false;
                }
            }
            return true;
        }

        List<Integer> allOutfits() {
            List<Integer> list = new ArrayList<>();
            for (int set = 0; set < 1 << now.pieces.size(); set++) {
                if (isOutfit(set)) {
                    list.add(set);
                }
            }
            return list;
        }

        int outfits(int k) {
            if (k < -1) {
                return refuse(-102);
            }
            return kth(allOutfits(), k);
        }

        static int kth(List<Integer> list, int k) {
            return k == -1 ? list.size() : k < list.size() ? list.get(k) : -5;
        }

        int lean(int what) {
            if (!in(what, 0, 1)) {
                return refuse(-102);
            }
            for (int size = 1; size <= 8; size++) {
                for (int set : allOutfits()) {
                    if (members(set).size() == size) {
                        return what == 0 ? size : set;
                    }
                }
            }
            return NONE;
        }

        int days() {
            // By the sets of pieces that are left: the most of all of them.
            List<Integer> outfits = allOutfits();
            int[] most = new int[1 << now.pieces.size()];
            for (int left = 0; left < most.length; left++) {
                for (int outfit : outfits) {
                    if ((outfit & left) == outfit) {
                        most[left] = Math.max(most[left], 1 + most[left - outfit]);
                    }
                }
            }
            return most[most.length - 1];
        }

        int spared() {
            int set = (1 << now.pieces.size()) - 1;
            for (int outfit : allOutfits()) {
                set &= ~outfit;
            }
            return set;
        }

        int few(int k) {
            if (k < -1) {
                return refuse(-102);
            }
            // Breadth first, rows in rising order: the first dressed one is the first of the shortest.
            List<State> states = List.of(now.copy());
            List<List<Integer>> rows = List.of(List.of());
            for (int length = 0; length <= 3; length++) {
                for (int s = 0; s < states.size(); s++) {
                    if (covered(states.get(s), states.get(s).on)) {
                        return kth(rows.get(s), k);
                    }
                }
                if (length == 3) {
                    break;
                }
                List<State> nextStates = new ArrayList<>();
                List<List<Integer>> nextRows = new ArrayList<>();
                for (int s = 0; s < states.size(); s++) {
                    grow(states.get(s), rows.get(s), nextStates, nextRows);
                }
                states = nextStates;
                rows = nextRows;
            }
            return -6;
        }

        static void grow(State s, List<Integer> row, List<State> states, List<List<Integer>> rows) {
            for (int code = 0; code < 30; code++) {
                int i = code % 10;
                if (i < s.pieces.size() && may(s, code / 10, i)) {
                    State t = s.copy();
                    move(t, code / 10, i);
                    List<Integer> longer = new ArrayList<>(row);
                    longer.add(code);
                    states.add(t);
                    rows.add(longer);
                }
            }
        }

        int note(int a, int b, int went) {
            if (!in(a, 0, 3) || !in(b, 0, 3) || a > b || !in(went, 0, 1)) {
                return refuse(-102);
            }
            if (now.notes.size() == 6) {
                return refuse(-104);
            }
            now.notes.add(new int[] {a, b, went});
            return now.notes.size();
        }

        int mark(int i, int p, int n, int x) {
            if (!there(i) || !in(p, 1, 9) || !in(n, 0, 99) || !in(x, -99, 40)) {
                return refuse(-102);
            }
            if (now.marks.size() == 6) {
                return refuse(-104);
            }
            now.marks.add(new int[] {i, p, n, x});
            return now.marks.size();
        }

        int forget(int what) {
            if (!in(what, 0, 1)) {
                return refuse(-102);
            }
            List<int[]> list = what == 0 ? now.notes : now.marks;
            int were = list.size();
            list.clear();
            return were;
        }

        int is() {
            int set = 63;
            for (int[] note : now.notes) {
                for (int kind = 0; kind < 6; kind++) {
                    if (go(kind, note[0], note[1]) != (note[2] == 1)) {
                        set &= ~(1 << kind);
                    }
                }
            }
            return set;
        }

        int look() {
            int set = is();
            if (set == 0) {
                return NONE;
            }
            int best = -1;
            int bestPart = 99;
            for (int code = 0; code <= 33; code++) {
                int a = code / 10;
                int b = code % 10;
                if (b > 3 || a > b) {
                    continue;
                }
                int[] parts = new int[2];
                for (int kind = 0; kind < 6; kind++) {
                    if ((set & 1 << kind) != 0) {
                        parts[go(kind, a, b) ? 1 : 0]++;
                    }
                }
                if (Math.max(parts[0], parts[1]) < bestPart) {
                    bestPart = Math.max(parts[0], parts[1]);
                    best = code;
                }
            }
            return best;
        }

        int what(int i) {
            int set = 63;
            for (int[] mark : now.marks) {
                for (int kind = 0; kind < 6; kind++) {
                    if (mark[0] == i && hold(kind, mark[1], mark[2]) != mark[3]) {
                        set &= ~(1 << kind);
                    }
                }
            }
            return set;
        }

        int kinds(int i) {
            return there(i) ? what(i) : refuse(-102);
        }

        int ask(int i) {
            if (!there(i)) {
                return refuse(-102);
            }
            int set = what(i);
            if (set == 0) {
                return NONE;
            }
            int best = -1;
            int fewest = 99;
            for (int n = 0; n <= 30; n++) {
                int[] groups = new int[400];
                int most = 0;
                for (int kind = 0; kind < 6; kind++) {
                    if ((set & 1 << kind) != 0) {
                        int group = 200 + hold(kind, now.pieces.get(i).paper, n);
                        most = Math.max(most, ++groups[group]);
                    }
                }
                if (most < fewest) {
                    fewest = most;
                    best = n;
                }
            }
            return best;
        }

        int gets(int own, int other) {
            if (own == other) {
                return -2;
            }
            if (!mayPut(now, own)) {
                return 0;
            }
            if (mayPut(now, other) && !goes(now, own, other)) {
                return -1;
            }
            int sum = 0;
            for (int spot = 0; spot < 4; spot++) {
                if (coversSpot(own, spot)) {
                    sum += coversSpot(other, spot) ? 1 : 2;
                }
            }
            return sum;
        }

        int two(int k) {
            if (k < -1) {
                return refuse(-102);
            }
            List<Integer> free = members(255);
            free.removeAll(now.on);
            List<Integer> resting = new ArrayList<>();
            for (int i : free) {
                for (int j : free) {
                    boolean rests = true;
                    for (int other : free) {
                        rests &= gets(other, j) <= gets(i, j) && gets(other, i) <= gets(j, i);
                    }
                    if (rests) {
                        resting.add(10 * i + j);
                    }
                }
            }
            return kth(resting, k);
        }

        int luck(int n) {
            if (!in(n, 0, 4)) {
                return refuse(-102);
            }
            List<Integer> free = members(255);
            free.removeAll(now.on);
            long[] goodAll = new long[2];
            rows(now.copy(), free, Math.min(n, free.size()), true, goodAll);
            long divisor = java.math.BigInteger.valueOf(goodAll[0])
                .gcd(java.math.BigInteger.valueOf(goodAll[1])).longValue();
            above = goodAll[0] / divisor;
            below = goodAll[1] / divisor;
            return 1;
        }

        void rows(State s, List<Integer> free, int left, boolean could, long[] goodAll) {
            if (left == 0) {
                goodAll[1]++;
                goodAll[0] += could && covered(s, s.on) ? 1 : 0;
                return;
            }
            for (int i : free) {
                List<Integer> others = new ArrayList<>(free);
                others.remove((Integer) i);
                State t = s.copy();
                boolean can = could && mayPut(s, i);
                move(t, 0, i);
                rows(t, others, left - 1, can, goodAll);
            }
        }

        int evenings(int seed, int n) {
            if (!in(seed, 0, 999999) || !in(n, 0, 60)) {
                return refuse(-102);
            }
            State s = now.copy();
            long x = seed;
            int dressed = 0;
            for (int t = 0; t < n; t++) {
                x = x * 1103515245L + 12345L & 0x7fffffffL;
                int i = (int) (x >> 16 & 7);
                if (i < s.pieces.size()) {
                    move(s, mayPut(s, i) ? 0 : mayTake(s, i) ? 1 : 2, i);
                }
                dressed += covered(s, s.on) ? 1 : 0;
            }
            return dressed;
        }

        long part(int what) {
            return what == 0 ? above : what == 1 ? below : refuse(-102);
        }

        int image(int i) {
            if (!in(i, 0, 1)) {
                return refuse(-102);
            }
            images[i] = now.copy();
            imageUndos.set(i, copies(undos));
            return 1;
        }

        int from(int i) {
            if (!in(i, 0, 1)) {
                return refuse(-102);
            }
            if (images[i] == null) {
                return refuse(-103);
            }
            now = images[i].copy();
            undos = copies(imageUndos.get(i));
            return 1;
        }

        static ArrayDeque<State> copies(ArrayDeque<State> states) {
            ArrayDeque<State> fresh = new ArrayDeque<>();
            for (State s : states) {
                fresh.addLast(s.copy());
            }
            return fresh;
        }

        int status(int what) {
            if (!in(what, 0, 2)) {
                refuse(-102);
                return -1;
            }
            return refused[what];
        }

        int count(int what) {
            if (!in(what, 0, 10)) {
                return refuse(-102);
            }
            int spots = 0;
            int worn = 0;
            for (int i : now.on) {
                for (int spot = 0; spot < 4; spot++) {
                    spots |= coversSpot(i, spot) ? 1 << spot : 0;
                }
            }
            for (Piece p : now.pieces) {
                worn += p.worn;
            }
            int[] all = {now.pieces.size(), now.on.size(), now.moves, spots, spots == 15 ? 1 : 0, worn, now.child,
                now.notes.size(), now.marks.size(), undos.size(), text.length()};
            return all[what];
        }

        long digest() {
            List<Long> values = new ArrayList<>();
            for (int what = 0; what <= 10; what++) {
                values.add((long) count(what));
            }
            for (Piece p : now.pieces) {
                values.addAll(List.of((long) p.kind, (long) p.colour, (long) p.paper, (long) p.worn));
            }
            now.on.forEach(i -> values.add((long) i));
            now.notes.forEach(note -> Arrays.stream(note).forEach(v -> values.add((long) v)));
            now.marks.forEach(mark -> Arrays.stream(mark).forEach(v -> values.add((long) v)));
            values.addAll(List.of(above, below));
            long h = 1867;
            for (long v : values) {
                h = 31 * h + v;
            }
            return h;
        }
    }

    /** Reads a text by first cutting it all into tokens, then going through them. */
    private static final class TextReader {
        static final Pattern TOKEN = Pattern.compile(" *([a-z]+|[0-9]+|[^a-z0-9 ])", Pattern.DOTALL);

        final String text;
        final List<String> tokens = new ArrayList<>();
        final List<Integer> places = new ArrayList<>();
        final State state = new State();
        int at = 0;

        TextReader(String text) {
            this.text = text;
            Matcher matcher = TOKEN.matcher(text);
            while (matcher.find()) {
                tokens.add(matcher.group(1));
                places.add(matcher.start(1));
            }
        }

        int read() {
            int items = 0;
            while (items == 0 || at < tokens.size()) {
                if (!item(items)) {
                    return -200 - (at < tokens.size() ? places.get(at) : text.length());
                }
                items++;
            }
            return items;
        }

        String peek() {
            return at < tokens.size() ? tokens.get(at) : "";
        }

        boolean item(int items) {
            String word = peek();
            if (word.equals("doll") != (items == 0)) {
                return false;
            }
            int[] most = {5, 3, 9};
            int numbers = 1;
            int what = List.of("on", "off", "mend").indexOf(word);
            if (word.equals("piece")) {
                if (state.pieces.size() == 8) {
                    return false;
                }
                numbers = 3;
            } else if (what >= 0) {
                most[0] = state.pieces.size() - 1;
            } else if (!word.equals("doll")) {
                return false;
            }
            at++;
            int[] told = new int[3];
            for (int n = 0; n < numbers; n++) {
                if (!peek().matches("[0-9]{1,2}")) {
                    return false;
                }
                told[n] = Integer.parseInt(peek());
                if (told[n] > most[n] || n == 2 && told[n] == 0 || what >= 0 && !Model.may(state, what, told[n])) {
                    return false;
                }
                at++;
            }
            if (word.equals("doll")) {
                state.child = told[0];
            } else if (what >= 0) {
                Model.move(state, what, told[0]);
            } else {
                state.pieces.add(new Piece(told[0], told[1], told[2], 0));
            }
            if (!peek().equals(";")) {
                return false;
            }
            at++;
            return true;
        }
    }
}
