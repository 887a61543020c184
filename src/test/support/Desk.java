import java.util.ArrayList;
import java.util.List;
import java.util.NoSuchElementException;

/** A ClueRoom spoken to in texts, and checks that print what is not as due. */
final class Desk {
    static final int SHUFFLE = 0;
    static final int HEADS = 1;
    static final int TAILS = 2;
    static final int HIDDEN = 3;
    static final int TURN = 4;
    static final int BEHEAD = 5;
    static final int CURTAIL = 6;
    static final int IN = 7;
    static final int ABOUT = 8;
    static final int LINK = 9;

    private static int wrong = 0;
    private static int checks = 0;

    final ClueRoom room = new ClueRoom();
    private final List<String> words = new ArrayList<>();

    /** Lights 0 to 2 of length 2 in a chain, each of which ab, ba, cd and dc (words 0 to 3) are possible for. */
    static Desk small() {
        Desk d = new Desk();
        String[] list = {"ab", "ba", "cd", "dc"};
        for (String s : list) d.w(s);
        for (String s : list) {
            d.means("x", s);
            d.means("y", s);
        }
        d.clue(0, 2, "x y");
        d.clue(1, 2, "x y");
        d.clue(2, 2, "y x");
        d.room.light(0, 0, 0, false);
        d.room.light(1, 0, 0, true);
        d.room.light(2, 1, 0, false);
        return d;
    }

    static void due(String what, Object got, Object want) {
        checks++;
        if (!got.equals(want)) {
            wrong++;
            System.out.println(what + ": answered " + got + ", due is " + want);
        }
    }

    /** Prints how many checks there were; ends with exit code 1 if one failed. */
    static void close() {
        System.out.println(checks + " checks, " + wrong + " wrong");
        if (wrong != 0) System.exit(1);
    }

    /** Puts a text on the tape, behind what is there. */
    void type(String s) {
        int before = room.count(7);
        feed(s);
        room.end(before + s.length());
    }

    /** Puts a text on the tape, which must be empty. */
    void put(String s) {
        feed(s);
        room.end(s.length());
    }

    private void feed(String s) {
        for (int start = 0; start < s.length(); start += 20) {
            int[] n = new int[5];
            for (int k = 0; k < 20; k++) {
                int b = start + k < s.length() ? s.charAt(start + k) : 0;
                n[k / 4] |= b << (24 - 8 * (k % 4));
            }
            room.feed(n[0], n[1], n[2], n[3], n[4]);
        }
    }

    /** Tells a word by three calls; the tape must be empty. */
    int tell(String s) {
        put(s);
        int w = room.word();
        if (w >= 0) words.add(s);
        return w;
    }

    /** The number of a word, told now if it is new. */
    int w(String s) {
        return words.contains(s) ? words.indexOf(s) : tell(s);
    }

    boolean means(String a, String b) {
        int first = w(a);
        int second = w(b);
        return room.means(first, second);
    }

    boolean sign(String a, int play) {
        return room.sign(w(a), play);
    }

    int clue(int c, int length, String text) {
        StringBuilder s = new StringBuilder();
        for (String x : text.split(" ")) s.append((char) w(x));
        put(s.toString());
        return room.clue(c, length);
    }

    String out() {
        StringBuilder s = new StringBuilder();
        for (int k = 0, size = room.count(8); k < size; k++) s.append((char) room.octet(k));
        return s.toString();
    }

    /** Ways, cost and name of the readings, as of the last day. */
    String read(int c, String answer) {
        int ways = room.readings(c, w(answer), 999);
        int cost = room.best(c, w(answer), 999);
        return cost > 0 ? ways + " " + cost + " " + out() : ways + " " + cost;
    }

    /** Tells a clue and reads it. */
    String read(int c, String text, String answer) {
        int w = w(answer);
        clue(c, answer.length(), text);
        due("word " + answer, w >= 0, true);
        return read(c, answer);
    }

    boolean octetThrows(int k) {
        try {
            room.octet(k);
            return false;
        } catch (NoSuchElementException e) {
            return true;
        }
    }

    boolean toldThrows(int k, int what) {
        try {
            room.told(k, what);
            return false;
        } catch (NoSuchElementException e) {
            return true;
        }
    }

    /** All that is unfair, as kind@light. */
    String unfair(int t) {
        StringBuilder s = new StringBuilder();
        int size = room.unfair(t);
        for (int k = 0; k < size; k++) s.append(k == 0 ? "" : " ").append(room.told(k, 0)).append('@').append(room.told(k, 1));
        return s.toString();
    }

    int send(String s) {
        put(s);
        return room.send();
    }

    /** All that calls which change nothing tell of the first three clues, their lights and the first cells, as of a day. */
    String state(int t) {
        StringBuilder s = new StringBuilder(out());
        for (int what = 0; what < 9; what++) s.append(' ').append(room.count(what));
        for (int c = 0; c < 3; c++) {
            s.append(" clue ").append(room.filled(c)).append(' ').append(room.left(c, t)).append(' ').append(room.possible(c, t));
        }
        for (int k = 0; !toldThrows(k, 0); k++) s.append(' ').append(room.told(k, 0)).append('@').append(room.told(k, 1));
        for (int k = 0; k < 9; k++) s.append(' ').append(room.cell(k / 3, k % 3));
        for (int g = 0; g < room.count(6); g++) s.append(' ').append(room.right(g, t));
        return s.append(' ').append(room.winner(t)).append(' ').append(room.nextLight(t)).toString();
    }
}
