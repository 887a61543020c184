import java.util.function.Function;

/**
 * 'A call that throws changes nothing', and so does one that is refused, but that word(), clue() and
 * send() leave the tape empty. Calls that only ask change nothing either.
 */
public final class RefusedCallsTest {
    private static final int[] FAR = {-1, -2, 9, 16, 120, 1000, Integer.MIN_VALUE, Integer.MAX_VALUE};

    public static void main(String[] args) {
        throwsChangeNothing();
        refusedTape();
        refusedDays();
        refusedMeaningsAndSigns();
        refusedLightsAndSolutions();
        refusedLetters();
        refusedWords();
        refusedClues();
        refusedGrids();
        askingChangesNothing();
        askingOfNoneChangesNothing();
        Desk.close();
    }

    /** A room in which all that a room can hold is there, on day 3. */
    private static Desk furnished() {
        Desk d = Desk.small();
        d.sign("x", Desk.TURN);
        d.w("zz");
        d.room.next(3);
        d.room.solution(0, 2);
        d.room.enter(0, 1, 2);
        d.send("ababba");
        d.room.best(0, 0, 3);
        d.room.fillings(3);
        d.room.unfair(3);
        return d;
    }

    /** The call must answer so and leave all as it was, with a tape of three bytes. */
    private static void refused(String what, Function<Desk, Object> call, Object answer) {
        Desk d = furnished();
        d.put("abc");
        String before = d.state(3);
        Desk.due(what, call.apply(d), answer);
        Desk.due(what + ": all of it", d.state(3), before);
    }

    /** The same of a call that takes the tape, which is empty then. */
    private static void refusedWith(String tape, String what, Function<Desk, Object> call) {
        Desk d = furnished();
        String before = d.state(3);
        d.put(tape);
        Desk.due(what, call.apply(d), -1);
        Desk.due(what + ": all of it, and an empty tape", d.state(3), before);
    }

    private static void throwsChangeNothing() {
        for (int k : FAR) {
            refused("octet(" + k + ")", d -> d.octetThrows(k), true);
            refused("told(" + k + ", 0)", d -> d.toldThrows(k, 0), true);
            refused("told(0, " + k + ")", d -> d.toldThrows(0, k), true);
        }
    }

    private static void refusedTape() {
        for (int n : new int[] {-1, 4, 180, Integer.MIN_VALUE, Integer.MAX_VALUE}) refused("end(" + n + ")", d -> d.room.end(n), false);
        Desk d = furnished();
        for (int k = 0; k < 9; k++) d.room.feed(1, 2, 3, 4, 5);
        String before = d.state(3);
        Desk.due("feed of a full tape", d.room.feed(1, 2, 3, 4, 5), -1);
        Desk.due("feed of a full tape: all of it", d.state(3), before);
    }

    private static void refusedDays() {
        for (int n : new int[] {-1, 997, 1000, Integer.MIN_VALUE, Integer.MAX_VALUE}) refused("next(" + n + ")", d -> d.room.next(n), -1);
    }

    private static void refusedMeaningsAndSigns() {
        for (int k : FAR) {
            refused("means(" + k + ", 0)", d -> d.room.means(k, 0), false);
            refused("means(0, " + k + ")", d -> d.room.means(0, k), false);
            refused("sign(" + k + ", 0)", d -> d.room.sign(k, 0), false);
        }
        for (int play : new int[] {-1, 10, Integer.MIN_VALUE, Integer.MAX_VALUE}) refused("sign(0, " + play + ")", d -> d.room.sign(0, play), false);
        refused("means itself", d -> d.room.means(4, 4), false);
        refused("a meaning again", d -> d.means("x", "ab"), false);
        refused("a sign again", d -> d.sign("x", Desk.TURN), false);
    }

    private static void refusedLightsAndSolutions() {
        for (int k : FAR) {
            refused("light(" + k + ")", d -> d.room.light(k, 4, 4, false), false);
            refused("solution(" + k + ", 0)", d -> d.room.solution(k, 0), false);
            refused("solution(0, " + k + ")", d -> d.room.solution(0, k), false);
        }
        refused("a light again", d -> d.room.light(0, 2, 0, false), false);
        refused("a light of a clue that is not told", d -> d.room.light(3, 2, 0, false), false);
        refused("a solution of another length", d -> d.room.solution(0, d.w("x")), false);
    }

    private static void refusedLetters() {
        for (int k : FAR) {
            refused("enter(" + k + ", 0, 1)", d -> d.room.enter(k, 0, 1), false);
            refused("enter(0, " + k + ", 1)", d -> d.room.enter(0, k, 1), false);
        }
        for (int letter : new int[] {-1, 27, Integer.MIN_VALUE, Integer.MAX_VALUE}) {
            refused("enter(0, 0, " + letter + ")", d -> d.room.enter(0, 0, letter), false);
        }
        refused("a cell of no light", d -> d.room.enter(2, 2, 1), false);
    }

    private static void refusedWords() {
        refusedWith("", "no letter", d -> d.room.word());
        refusedWith("abcdefghijk", "eleven letters", d -> d.room.word());
        refusedWith("a{", "another byte", d -> d.room.word());
        refusedWith("ab", "a word again", d -> d.room.word());
    }

    private static void refusedClues() {
        String two = "" + (char) 4 + (char) 4;
        for (int c : new int[] {-1, 16, Integer.MIN_VALUE, Integer.MAX_VALUE}) refusedWith(two, "clue " + c, d -> d.room.clue(c, 2));
        for (int n : new int[] {0, 1, 3, 11, -1, Integer.MAX_VALUE}) refusedWith(two, "length " + n, d -> d.room.clue(0, n));
        refusedWith("", "no word", d -> d.room.clue(0, 2));
        refusedWith("" + (char) 4, "one word", d -> d.room.clue(0, 2));
        refusedWith("" + (char) 4 + (char) 7, "no such word", d -> d.room.clue(0, 2));
        refusedWith("\4\4\4\4\4\4\4\4\4", "nine words", d -> d.room.clue(0, 2));
    }

    private static void refusedGrids() {
        refusedWith("", "no letter", d -> d.room.send());
        refusedWith("ababb", "too few letters", d -> d.room.send());
        refusedWith("ababbaa", "too many letters", d -> d.room.send());
        refusedWith("ababb`", "another byte", d -> d.room.send());
    }

    private static void askingChangesNothing() {
        refused("count", d -> d.room.count(2), 8);
        refused("readings", d -> d.room.readings(0, 0, 3), 3);
        refused("readings of another day", d -> d.room.readings(0, 0, -1), -1);
        refused("possible", d -> d.room.possible(1, 0), 4);
        refused("possibleAt", d -> d.room.possibleAt(1, 3, 0), 3);
        refused("left of another day", d -> d.room.left(1, -1), 0);
        refused("nextLight of another day", d -> d.room.nextLight(-1), -1);
        refused("right of another day", d -> d.room.right(0, 2), 0);
        refused("winner of another day", d -> d.room.winner(2), -1);
        refused("filled", d -> d.room.filled(2), 1);
        refused("cell", d -> d.room.cell(0, 1), 2);
        refused("octet", d -> d.room.octet(0), (int) 'm');
        refused("told", d -> d.room.told(0, 1), 1);
        refused("solve of another day", d -> d.room.solve(-1), 0);
        refused("fillings that tell none", d -> d.room.fillings(-1), 0);
        refused("best of none", d -> d.room.best(0, d.w("zz"), 3), 0);
    }

    private static void askingOfNoneChangesNothing() {
        for (int k : FAR) {
            refused("count(" + k + ")", d -> d.room.count(k), -1);
            refused("readings(" + k + ")", d -> d.room.readings(k, 0, 3), -1);
            refused("readings by " + k, d -> d.room.readings(0, k, 3), -1);
            refused("best(" + k + ")", d -> d.room.best(k, 0, 3), -1);
            refused("best by " + k, d -> d.room.best(0, k, 3), -1);
            refused("possible(" + k + ")", d -> d.room.possible(k, 3), -1);
            refused("possibleAt(" + k + ")", d -> d.room.possibleAt(k, 0, 3), -1);
            refused("possibleAt at " + k, d -> d.room.possibleAt(0, k, 3), -1);
            refused("cell(" + k + ", 0)", d -> d.room.cell(k, 0), -1);
            refused("left(" + k + ")", d -> d.room.left(k, 3), -1);
            refused("filled(" + k + ")", d -> d.room.filled(k), -1);
            refused("right(" + k + ")", d -> d.room.right(k, 3), -1);
        }
    }
}
