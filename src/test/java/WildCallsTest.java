import java.util.NoSuchElementException;
import java.util.Random;

/**
 * Every call with numbers from all over the range of int, in rooms that hold a little of everything:
 * ClueRoom answers as PlainRoom does, and throws nothing but what the document names.
 */
public final class WildCallsTest {
    private static final int[] EDGES = {Integer.MIN_VALUE, Integer.MIN_VALUE + 1, -1000, -180, -97, -9, -2, -1, 0, 1, 2, 8, 9, 10,
        11, 15, 16, 20, 26, 27, 29, 30, 59, 60, 61, 80, 81, 97, 119, 120, 121, 179, 180, 181, 239, 240, 255, 256, 998, 999, 1000,
        1 << 16, 1 << 24, (1 << 24) + 1, 1 << 30, Integer.MAX_VALUE - 1, Integer.MAX_VALUE};
    private static final int THROWN = -77;
    /** Behind so many calls an object may answer anything. */
    private static final int MOST_CALLS = 512;
    private static int compared = 0;
    private static int wrong = 0;

    private final Random random;
    private final String label;
    private final ClueRoom room = new ClueRoom();
    private final PlainRoom plain = new PlainRoom();
    private int calls = 0;

    static final class Enough extends RuntimeException {
        private static final long serialVersionUID = 1L;
    }

    private WildCallsTest(long seed) {
        random = new Random(seed);
        label = "seed " + seed;
    }

    private int small(int bound) {
        return random.nextInt(bound);
    }

    /** A number that the call can use, as a rule; else an edge or any number. */
    private int number(int bound) {
        int kind = small(12);
        return kind > 1 ? small(bound) : kind == 1 ? EDGES[small(EDGES.length)] : random.nextInt();
    }

    private void check(String call, int got, int want) {
        compared++;
        if (got != want) {
            wrong++;
            System.out.println(label + ": " + call + " answered " + got + ", due is " + want);
        }
        calls++;
        if (calls == MOST_CALLS) throw new Enough();
    }

    private void check(String call, boolean got, boolean want) {
        check(call, got ? 1 : 0, want ? 1 : 0);
    }

    private void feed(int a, int b) {
        check("feed", room.feed(a, b, a, b, a), plain.feed(a, b, a, b, a));
    }

    private void tape(int least, int bound, int size) {
        int a = 0;
        for (int k = 0; k < 4; k++) a = a << 8 | least + small(bound);
        feed(a, Integer.rotateLeft(a, 8));
        check("end", room.end(size), plain.end(size));
    }

    private void tellWord() {
        tape('a', 2, 1 + small(3));
        check("word()", room.word(), plain.word());
    }

    private void tellClue() {
        tape(0, 9, 2 + small(3));
        int c = number(5);
        int length = 1 + c % 3;
        check("clue(" + c + "," + length + ")", room.clue(c, length), plain.clue(c, length));
    }

    private void furnish() {
        for (int k = 0; k < 12; k++) tellWord();
        for (int k = 0; k < 20; k++) {
            int a = small(10);
            int b = small(10);
            check("means", room.means(a, b), plain.means(a, b));
        }
        for (int k = 0; k < 8; k++) {
            int w = small(10);
            int play = small(10);
            check("sign", room.sign(w, play), plain.sign(w, play));
        }
        for (int c = 0; c < 5; c++) {
            tape(0, 5, 2 + small(3));
            check("clue", room.clue(c, 1 + c % 3), plain.clue(c, 1 + c % 3));
            int row = small(3);
            int column = small(3);
            check("light", room.light(c, row, column, c % 2 == 0), plain.light(c, row, column, c % 2 == 0));
        }
    }

    private void tell() {
        int a = number(12);
        int b = number(10);
        int c = number(5);
        switch (small(9)) {
            case 0: feed(number(256), number(256)); break;
            case 1: check("end(" + a + ")", room.end(a), plain.end(a)); break;
            case 2: check("next(" + a + ")", room.next(a), plain.next(a)); break;
            case 3: tellWord(); break;
            case 4: check("means(" + a + "," + b + ")", room.means(a, b), plain.means(a, b)); break;
            case 5: check("sign(" + a + "," + b + ")", room.sign(a, b), plain.sign(a, b)); break;
            case 6: tellClue(); break;
            case 7: check("light(" + c + "," + a + "," + b + ")", room.light(c, a, b, a > b), plain.light(c, a, b, a > b)); break;
            default: check("solution(" + c + "," + a + ")", room.solution(c, a), plain.solution(c, a)); break;
        }
    }

    private void ask() {
        int c = number(5);
        int w = number(12);
        int k = number(4);
        int t = number(30);
        switch (small(10)) {
            case 0: check("readings(" + c + "," + w + "," + t + ")", room.readings(c, w, t), plain.readings(c, w, t)); break;
            case 1: check("best(" + c + "," + w + "," + t + ")", room.best(c, w, t), plain.best(c, w, t)); break;
            case 2: check("possible(" + c + "," + t + ")", room.possible(c, t), plain.possible(c, t)); break;
            case 3: check("possibleAt(" + c + "," + k + "," + t + ")", room.possibleAt(c, k, t), plain.possibleAt(c, k, t)); break;
            case 4: check("left(" + c + "," + t + ")", room.left(c, t), plain.left(c, t)); break;
            case 5: check("nextLight(" + t + ")", room.nextLight(t), plain.nextLight(t)); break;
            case 6: check("filled(" + c + ")", room.filled(c), plain.filled(c)); break;
            case 7: check("right(" + k + "," + t + ")", room.right(k, t), plain.right(k, t)); break;
            case 8: check("winner(" + t + ")", room.winner(t), plain.winner(t)); break;
            default: check("count(" + w + ")", room.count(w), plain.count(w)); break;
        }
    }

    private void play() {
        int row = number(5);
        int column = number(5);
        int letter = number(4);
        int t = number(30);
        switch (small(8)) {
            case 0: check("enter", room.enter(row, column, letter), plain.enter(row, column, letter)); break;
            case 1: check("cell(" + row + "," + column + ")", room.cell(row, column), plain.cell(row, column)); break;
            case 2: check("solve(" + t + ")", room.solve(t), plain.solve(t)); break;
            case 3: check("fillings(" + t + ")", room.fillings(t), plain.fillings(t)); break;
            case 4: check("unfair(" + t + ")", room.unfair(t), plain.unfair(t)); break;
            case 5: check("octet(" + row + ")", octet(row), plainOctet(row)); break;
            case 6: check("told(" + row + "," + column + ")", told(row, column % 3), plainTold(row, column % 3)); break;
            default:
                tape('a', 2, Math.min(20, plain.count(7) + 20));
                check("send()", room.send(), plain.send());
                break;
        }
    }

    private int octet(int k) {
        try {
            return room.octet(k);
        } catch (NoSuchElementException e) {
            return THROWN;
        }
    }

    private int plainOctet(int k) {
        try {
            return plain.octet(k);
        } catch (NoSuchElementException e) {
            return THROWN;
        }
    }

    private int told(int k, int what) {
        try {
            return room.told(k, what);
        } catch (NoSuchElementException e) {
            return THROWN;
        }
    }

    private int plainTold(int k, int what) {
        try {
            return plain.told(k, what);
        } catch (NoSuchElementException e) {
            return THROWN;
        }
    }

    private void run() {
        try {
            furnish();
            while (wrong == 0) {
                int kind = small(4);
                if (kind == 0) tell();
                else if (kind == 1) play();
                else ask();
            }
        } catch (PlainRoom.TooMany | Enough e) {
            return;
        } catch (RuntimeException e) {
            wrong++;
            System.out.println(label + ": " + e);
            e.printStackTrace(System.out);
        }
    }

    public static void main(String[] args) {
        int runs = args.length > 0 ? Integer.parseInt(args[0]) : 600;
        for (int seed = 0; seed < runs && wrong == 0; seed++) new WildCallsTest(seed).run();
        System.out.println(compared + " answers compared, " + wrong + " wrong");
        if (wrong != 0) System.exit(1);
    }
}
