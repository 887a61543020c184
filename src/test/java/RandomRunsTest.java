import java.util.ArrayList;
import java.util.List;
import java.util.NoSuchElementException;
import java.util.Random;

/** Random runs of calls, each answered by ClueRoom and by PlainRoom, which must agree. */
public final class RandomRunsTest {
    /** Behind so many calls an object may answer anything. */
    private static final int MOST_CALLS = 512;

    static final class Enough extends RuntimeException {
        private static final long serialVersionUID = 1L;
    }

    private static int wrong = 0;
    private static int compared = 0;
    private static final int[] seen = new int[256];

    private final Random random;
    private final ClueRoom room = new ClueRoom();
    private final PlainRoom plain = new PlainRoom();
    private final String label;
    private final StringBuilder story = new StringBuilder();
    private final List<String> words = new ArrayList<>();
    private final int[] lengths = new int[16];
    /** Half of the runs have few plays, so that the dearer ones are not always beaten by cheaper ones. */
    private final int[] plays;
    private final int[] clues = new int[5];
    private int calls = 0;
    private boolean over = false;

    private RandomRunsTest(long seed) {
        random = new Random(seed);
        label = "seed " + seed;
        for (int k = 0; k < clues.length; k++) clues[k] = random.nextInt(16);
        plays = random.nextBoolean() ? new int[] {0, 1, 2, 3, 4, 5, 6, 7, 8, 9}
                : new int[] {random.nextInt(10), 7 + random.nextInt(2), random.nextInt(10), 9};
    }

    private int pick(int bound) {
        return random.nextInt(bound);
    }

    private int someClue() {
        return clues[pick(clues.length)];
    }

    private int check(String call, int got, int want) {
        compared++;
        calls++;
        story.append(call).append(" = ").append(want).append("\n");
        if (got != want) {
            wrong++;
            over = true;
            if (wrong <= 3) System.out.println(label + "\n" + story + "ANSWERED " + got);
        }
        if (calls == MOST_CALLS) throw new Enough();
        return want;
    }

    private int check(String call, boolean got, boolean want) {
        return check(call, got ? 1 : 0, want ? 1 : 0);
    }

    private void type(String s) {
        for (int start = 0; start < s.length() || start == 0; start += 20) {
            int[] n = new int[5];
            for (int k = 0; k < 20; k++) {
                int b = start + k < s.length() ? s.charAt(start + k) : 0;
                n[k / 4] |= b << (24 - 8 * (k % 4));
            }
            check("feed", room.feed(n[0], n[1], n[2], n[3], n[4]), plain.feed(n[0], n[1], n[2], n[3], n[4]));
        }
        check("end(" + s.length() + ") " + s, room.end(s.length()), plain.end(s.length()));
    }

    private String letters(int size, int alphabet) {
        StringBuilder s = new StringBuilder();
        for (int k = 0; k < size; k++) s.append((char) ('a' + (pick(30) == 0 ? 25 - pick(alphabet) : pick(alphabet))));
        return s.toString();
    }

    /** Two words or a word twice or turned, put in one another somewhere. */
    private String joined() {
        String a = words.get(pick(words.size()));
        String b = words.get(pick(words.size()));
        int cut = pick(a.length() + 1);
        String s = a.substring(0, cut) + b + a.substring(cut);
        return pick(3) == 0 ? new StringBuilder(s).reverse().toString() : s;
    }

    private void tellWord(int alphabet, int longest) {
        String s = letters(1 + pick(longest), alphabet);
        if (!words.isEmpty() && pick(3) == 0) s = joined();
        type(s);
        if (check("word() " + s, room.word(), plain.word()) >= 0) words.add(s);
    }

    private int someWord() {
        return pick(40) == 0 ? pick(130) - 5 : words.isEmpty() ? 0 : pick(words.size());
    }

    private void tellMeaning() {
        int a = someWord();
        int b = someWord();
        check("means(" + a + "," + b + ")", room.means(a, b), plain.means(a, b));
    }

    private void tellSign() {
        int w = someWord();
        int play = pick(30) == 0 ? pick(14) - 2 : plays[pick(plays.length)];
        check("sign(" + w + "," + play + ")", room.sign(w, play), plain.sign(w, play));
    }

    private void tellClue(int most, int longest) {
        int c = pick(40) == 0 ? pick(20) - 2 : someClue();
        int length = 1 + pick(longest);
        if (c >= 0 && c < 16 && lengths[c] > 0 && pick(20) > 0) length = lengths[c];
        int size = pick(40) == 0 ? pick(12) : 2 + pick(most - 1);
        StringBuilder s = new StringBuilder();
        for (int k = 0; k < size; k++) s.append((char) Math.max(0, someWord()));
        type(s.toString());
        if (check("clue(" + c + "," + length + ")", room.clue(c, length), plain.clue(c, length)) >= 0) lengths[c] = length;
    }

    /** The word of these letters, told if it is not there yet. */
    private int wordOf(String s) {
        if (!words.contains(s)) {
            type(s);
            if (check("word() " + s, room.word(), plain.word()) >= 0) words.add(s);
        }
        return Math.max(0, words.indexOf(s));
    }

    private int meaner(int w) {
        int a = pick(words.size());
        check("means(" + a + "," + w + ")", room.means(a, w), plain.means(a, w));
        return a;
    }

    private int signOf(int play) {
        int a = pick(words.size());
        check("sign(" + a + "," + play + ")", room.sign(a, play), plain.sign(a, play));
        return a;
    }

    private int lettersOrMeaning(String s) {
        int w = wordOf(s);
        return random.nextBoolean() ? w : meaner(w);
    }

    private static String reversed(String s) {
        return new StringBuilder(s).reverse().toString();
    }

    /** A row of words that makes these letters, with what has to be told for it. */
    private List<Integer> buildRow(String s, int room) {
        if (s.length() >= 2 && room >= 2 && pick(3) == 0) {
            int cut = 1 + pick(s.length() - 1);
            List<Integer> row = buildPiece(s.substring(0, cut), room - 1);
            if (row.size() + 2 <= room && pick(3) == 0) row.add(signOf(9));
            row.addAll(buildRow(s.substring(cut), room - row.size()));
            return row;
        }
        return buildPiece(s, room);
    }

    private List<Integer> buildPiece(String s, int room) {
        List<Integer> rest = new ArrayList<>();
        int play = room < 2 ? -1 : plays[pick(plays.length)];
        if (play == 4) rest = buildRow(reversed(s), room - 1);
        else if (play == 0) rest.add(wordOf(s.substring(s.length() / 2) + s.substring(0, s.length() / 2)));
        else if (play == 5 && s.length() < 10) rest.add(lettersOrMeaning(letters(1, 4) + s));
        else if (play == 6 && s.length() < 10) rest.add(lettersOrMeaning(s + letters(1, 4)));
        else if (play == 3 && s.length() >= 2 && s.length() < 10 && room >= 3) {
            int cut = 1 + pick(s.length() - 1);
            rest.add(wordOf(letters(1, 4) + s.substring(0, cut)));
            rest.add(wordOf(s.substring(cut) + letters(1, 4)));
        } else if ((play == 1 || play == 2) && s.length() < room) {
            for (char x : s.toCharArray()) rest.add(wordOf(play == 1 ? x + letters(pick(2), 4) : letters(pick(2), 4) + x));
        } else if ((play == 7 || play == 8) && s.length() >= 3 && room >= 3) {
            int p = 1 + pick(s.length() - 2);
            int q = p + 1 + pick(s.length() - p - 1);
            int around = lettersOrMeaning(s.substring(0, p) + s.substring(q));
            rest.addAll(buildRow(s.substring(p, q), room - 2));
            rest.add(play == 7 ? rest.size() : 0, signOf(play));
            rest.add(play == 7 ? rest.size() : 0, around);
            return rest;
        } else {
            rest.add(lettersOrMeaning(s));
            return rest;
        }
        rest.add(random.nextBoolean() ? 0 : rest.size(), signOf(play));
        return rest;
    }

    /** A clue that has a reading, as a rule. */
    private void buildClue() {
        int c = someClue();
        String s = lengths[c] > 0 ? letters(lengths[c], 4) : letters(3 + pick(8), 4);
        int answer = wordOf(s);
        boolean linked = pick(4) == 0;
        List<Integer> row = buildRow(s, linked ? 6 : 7);
        boolean front = random.nextBoolean();
        if (linked) row.add(front ? 0 : row.size(), signOf(9));
        row.add(front ? 0 : row.size(), meaner(answer));
        StringBuilder text = new StringBuilder();
        for (int w : row) text.append((char) w);
        type(text.toString());
        if (check("clue(" + c + ")", room.clue(c, s.length()), plain.clue(c, s.length())) >= 0) lengths[c] = s.length();
        int t = plain.count(0);
        check("readings(" + c + "," + answer + ")", room.readings(c, answer, t), plain.readings(c, answer, t));
        check("best(" + c + "," + answer + ")", room.best(c, answer, t), plain.best(c, answer, t));
        askOut();
    }

    private void tellLight() {
        int c = pick(20) == 0 ? pick(20) - 2 : someClue();
        int row = pick(5) - (pick(20) == 0 ? 1 : 0);
        int column = pick(pick(9) == 0 ? 11 : 4);
        boolean down = random.nextBoolean();
        check("light(" + c + "," + row + "," + column + "," + down + ")",
                room.light(c, row, column, down), plain.light(c, row, column, down));
    }

    private int someDay() {
        return pick(3) == 0 ? pick(12) - 1 : pick(20) == 0 ? 2000000000 : plain.count(0);
    }

    private void askOut() {
        int size = check("count(8)", room.count(8), plain.count(8));
        for (int k = -1; k <= size; k++) {
            int got;
            int want;
            try {
                got = room.octet(k);
            } catch (NoSuchElementException e) {
                got = -9;
            }
            try {
                want = plain.octet(k);
                seen[want]++;
            } catch (NoSuchElementException e) {
                want = -9;
            }
            check("octet(" + k + ")", got, want);
        }
    }

    private void askReading() {
        int c = pick(20) == 0 ? pick(20) - 2 : someClue();
        int t = someDay();
        int w = someWord();
        int possible = plain.possible(c, t);
        if (possible > 0 && pick(4) > 0) w = plain.possibleAt(c, pick(possible), t);
        check("readings(" + c + "," + w + "," + t + ")", room.readings(c, w, t), plain.readings(c, w, t));
        check("best(" + c + "," + w + "," + t + ")", room.best(c, w, t), plain.best(c, w, t));
        if (pick(2) == 0) askOut();
    }

    private void askPossible() {
        int c = pick(20) == 0 ? pick(20) - 2 : someClue();
        int t = someDay();
        int size = check("possible(" + c + "," + t + ")", room.possible(c, t), plain.possible(c, t));
        for (int k = -1; k <= size && k < 4; k++) {
            check("possibleAt(" + c + "," + k + "," + t + ")", room.possibleAt(c, k, t), plain.possibleAt(c, k, t));
        }
    }

    private void enterOne() {
        int row = pick(6) - (pick(20) == 0 ? 1 : 0);
        int column = pick(6);
        int letter = pick(3) == 0 ? pick(30) - 1 : pick(4);
        check("enter(" + row + "," + column + "," + letter + ")", room.enter(row, column, letter), plain.enter(row, column, letter));
        int r = pick(11) - 1;
        int c = pick(11) - 1;
        check("cell(" + r + "," + c + ")", room.cell(r, c), plain.cell(r, c));
    }

    private void clearAll() {
        for (int k = 0; k < 81; k++) {
            if (plain.cell(k / 9, k % 9) > 0) check("enter", room.enter(k / 9, k % 9, 0), plain.enter(k / 9, k % 9, 0));
        }
    }

    private void askGrid() {
        int t = someDay();
        int c = pick(10) == 0 ? pick(20) - 2 : someClue();
        switch (pick(6)) {
            case 0: check("left(" + c + "," + t + ")", room.left(c, t), plain.left(c, t)); break;
            case 1: check("nextLight(" + t + ")", room.nextLight(t), plain.nextLight(t)); break;
            case 2:
                check("solve(" + t + ")", room.solve(t), plain.solve(t));
                for (int k = 0; k < 81; k++) {
                    if (plain.cell(k / 9, k % 9) >= 0) check("cell", room.cell(k / 9, k % 9), plain.cell(k / 9, k % 9));
                }
                break;
            case 3:
                check("fillings(" + t + ")", room.fillings(t), plain.fillings(t));
                for (int k = -1; k < 17; k++) check("filled(" + k + ")", room.filled(k), plain.filled(k));
                break;
            case 4: askUnfair(t); break;
            default: clearAll(); break;
        }
    }

    private void askUnfair(int t) {
        int size = check("unfair(" + t + ")", room.unfair(t), plain.unfair(t));
        for (int k = -1; k <= size; k++) {
            int what = pick(20) == 0 ? pick(5) - 1 : pick(2);
            int got;
            int want;
            try {
                got = room.told(k, what);
            } catch (NoSuchElementException e) {
                got = -9;
            }
            try {
                want = plain.told(k, what);
            } catch (NoSuchElementException e) {
                want = -9;
            }
            check("told(" + k + "," + what + ")", got, want);
        }
    }

    private void tellSolution() {
        int c = someClue();
        int w = someWord();
        int possible = plain.possible(c, 999);
        if (possible > 0 && pick(3) > 0) w = plain.possibleAt(c, pick(possible), 999);
        check("solution(" + c + "," + w + ")", room.solution(c, w), plain.solution(c, w));
    }

    private void sendOne(int alphabet) {
        StringBuilder s = new StringBuilder();
        for (int c = 0; c < 16; c++) {
            if (plain.left(c, 999) < 0) continue;
            int filled = plain.filled(c);
            if (filled >= 0 && pick(8) > 0) s.append(words.get(filled));
            else s.append(letters(lengths[c], alphabet));
        }
        if (pick(8) == 0) s.append('a');
        if (s.length() <= 180) {
            type(s.toString());
            check("send()", room.send(), plain.send());
        }
        int g = pick(6) - 1;
        int t = someDay();
        check("right(" + g + "," + t + ")", room.right(g, t), plain.right(g, t));
        check("winner(" + t + ")", room.winner(t), plain.winner(t));
    }

    private void run() {
        int alphabet = 1 + pick(4);
        int longest = 1 + pick(pick(4) == 0 ? 10 : 5);
        int most = pick(3) == 0 ? 8 : 2 + pick(5);
        boolean built = random.nextBoolean();
        int tellings = built ? pick(20) : 20 + pick(120);
        try {
            for (int k = 0; k < 14 && !over; k++) tellWord(alphabet, longest);
            for (int k = 0; k < tellings && !over; k++) {
                int what = pick(10);
                if (what == 0) tellWord(alphabet, longest);
                else if (what < 6) tellMeaning();
                else tellSign();
                if (pick(30) == 0) check("next", room.next(1), plain.next(1));
            }
            for (int k = 0; k < 6 && !over; k++) {
                if (built) buildClue();
                else tellClue(most, longest);
            }
            while (!over) step(alphabet, longest, most);
        } catch (PlainRoom.TooMany | Enough e) {
            over = true;
        }
    }

    private void step(int alphabet, int longest, int most) {
        switch (pick(16)) {
            case 0: tellWord(alphabet, longest); break;
            case 1: tellMeaning(); break;
            case 2: tellSign(); break;
            case 3: tellClue(most, longest); break;
            case 4: tellLight(); break;
            case 5: tellLight(); break;
            case 6: tellSolution(); break;
            case 7: sendOne(alphabet); break;
            case 8: enterOne(); break;
            case 9: {
                int n = pick(10) == 0 ? pick(2000) - 500 : pick(3);
                if (plain.count(0) < 900 || n < 5) check("next(" + n + ")", room.next(n), plain.next(n));
                break;
            }
            case 10: {
                int what = pick(12) - 1;
                check("count(" + what + ")", room.count(what), plain.count(what));
                break;
            }
            case 11: askPossible(); break;
            case 12: case 13: askGrid(); break;
            default: askReading(); break;
        }
    }

    public static void main(String[] args) {
        int runs = args.length > 0 ? Integer.parseInt(args[0]) : 3000;
        int from = args.length > 1 ? Integer.parseInt(args[1]) : 0;
        for (int seed = from; seed < from + runs; seed++) new RandomRunsTest(seed).run();
        StringBuilder names = new StringBuilder();
        for (int k = 0; k < 256; k++) if (seen[k] > 0) names.append((char) k).append(seen[k]).append(' ');
        System.out.println(compared + " answers compared, " + wrong + " wrong; bytes seen in names: " + names);
        if (wrong != 0) System.exit(1);
    }
}
