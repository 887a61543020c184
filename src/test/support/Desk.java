import java.util.ArrayList;
import java.util.List;
import java.util.NoSuchElementException;

/** A ClueRoom spoken to in texts, and checks that print what is not as due. */
final class Desk {
    static final int SHUFFLE = 0;
    static final int HEADS = 1;
    static final int TAILS = 2;
    static final int HIDDEN = 3;
    static final int TURN = 4;
    static final int BEHEAD = 5;
    static final int CURTAIL = 6;
    static final int IN = 7;
    static final int ABOUT = 8;
    static final int LINK = 9;

    private static int wrong = 0;
    private static int checks = 0;

    final ClueRoom room = new ClueRoom();
    private final List<String> words = new ArrayList<>();

    static void due(String what, Object got, Object want) {
        checks++;
        if (!got.equals(want)) {
            wrong++;
            System.out.println(what + ": answered " + got + ", due is " + want);
        }
    }

    /** Prints how many checks there were; ends with exit code 1 if one failed. */
    static void close() {
        System.out.println(checks + " checks, " + wrong + " wrong");
        if (wrong != 0) System.exit(1);
    }

    /** Puts a text on the tape, behind what is there. */
    void type(String s) {
        int before = room.count(7);
        for (int start = 0; start < s.length(); start += 20) {
            int[] n = new int[5];
            for (int k = 0; k < 20; k++) {
                int b = start + k < s.length() ? s.charAt(start + k) : 0;
                n[k / 4] |= b << (24 - 8 * (k % 4));
            }
            room.feed(n[0], n[1], n[2], n[3], n[4]);
        }
        room.end(before + s.length());
    }

    int tell(String s) {
        type(s);
        int w = room.word();
        if (w >= 0) words.add(s);
        return w;
    }

    /** The number of a word, told now if it is new. */
    int w(String s) {
        return words.contains(s) ? words.indexOf(s) : tell(s);
    }

    boolean means(String a, String b) {
        int first = w(a);
        int second = w(b);
        return room.means(first, second);
    }

    boolean sign(String a, int play) {
        return room.sign(w(a), play);
    }

    int clue(int c, int length, String text) {
        StringBuilder s = new StringBuilder();
        for (String x : text.split(" ")) s.append((char) w(x));
        type(s.toString());
        return room.clue(c, length);
    }

    String out() {
        StringBuilder s = new StringBuilder();
        for (int k = 0; k < room.count(8); k++) s.append((char) room.octet(k));
        return s.toString();
    }

    /** Ways, cost and name of the readings, as of the last day. */
    String read(int c, String answer) {
        int ways = room.readings(c, w(answer), 999);
        int cost = room.best(c, w(answer), 999);
        return cost > 0 ? ways + " " + cost + " " + out() : ways + " " + cost;
    }

    /** Tells a clue and reads it. */
    String read(int c, String text, String answer) {
        int w = w(answer);
        clue(c, answer.length(), text);
        due("word " + answer, w >= 0, true);
        return read(c, answer);
    }

    boolean octetThrows(int k) {
        try {
            room.octet(k);
            return false;
        } catch (NoSuchElementException e) {
            return true;
        }
    }

    boolean toldThrows(int k, int what) {
        try {
            room.told(k, what);
            return false;
        } catch (NoSuchElementException e) {
            return true;
        }
    }

    /** All that is unfair, as kind@light. */
    String unfair(int t) {
        StringBuilder s = new StringBuilder();
        int size = room.unfair(t);
        for (int k = 0; k < size; k++) s.append(k == 0 ? "" : " ").append(room.told(k, 0)).append('@').append(room.told(k, 1));
        return s.toString();
    }

    int send(String s) {
        type(s);
        return room.send();
    }
}
