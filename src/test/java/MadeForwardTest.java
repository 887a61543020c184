import java.util.ArrayList;
import java.util.List;
import java.util.Random;
import java.util.TreeMap;
import java.util.TreeSet;

/**
 * The terms of '==== 2.' from the other side: not whether words make an answer, but all that rows and
 * pieces of random clues make, written out forwards; compared with readings(), best() and possible().
 */
public final class MadeForwardTest {
    private static final int LONGEST = 10;
    private static final int MOST_MADE = 60000;

    static final class Made {
        final String letters;
        final String name;
        final int cost;

        Made(String letters, String name, int cost) {
            this.letters = letters;
            this.name = name;
            this.cost = cost;
        }
    }

    static final class TooMany extends RuntimeException {
        private static final long serialVersionUID = 1L;
    }

    private static int withReadings = 0;
    private static int leftOut = 0;
    private static final TreeMap<Character, Integer> seen = new TreeMap<>();

    private final Random random;
    private final Desk desk = new Desk();
    private final List<String> words = new ArrayList<>();
    private final TreeSet<String> meanings = new TreeSet<>();
    private final TreeSet<String> signs = new TreeSet<>();
    private String[] clue;
    private int made;

    private MadeForwardTest(int seed) {
        random = new Random(seed);
    }

    public static void main(String[] args) {
        int runs = args.length > 0 ? Integer.parseInt(args[0]) : 4000;
        int from = args.length > 1 ? Integer.parseInt(args[1]) : 0;
        for (int seed = from; seed < from + runs; seed++) new MadeForwardTest(seed).run("seed " + seed);
        System.out.println(withReadings + " answers with readings, " + leftOut + " runs left out; bytes seen in names: " + seen);
        Desk.due("enough answers with readings", withReadings > runs / 2, true);
        Desk.due("few runs left out", leftOut < runs / 10, true);
        for (char c : "()12345=ABCDEFabcefhiklmst".toCharArray()) Desk.due("names with " + c, seen.containsKey(c), true);
        Desk.close();
    }

    private void run(String where) {
        int letters = 1 + random.nextInt(3);
        int most = 4 + random.nextInt(8);
        for (int k = 0; k < most; k++) tellWord(letters);
        tellLists();
        int size = 2 + random.nextInt(5);
        clue = new String[size];
        for (int k = 0; k < size; k++) clue[k] = words.get(random.nextInt(words.size()));
        tellAnswers();
        compareAll(where);
    }

    private void tellWord(int letters) {
        StringBuilder s = new StringBuilder();
        for (int n = 1 + random.nextInt(random.nextInt(8) == 0 ? 8 : 4); n > 0; n--) s.append((char) ('a' + random.nextInt(letters)));
        if (!words.contains(s.toString())) {
            desk.w(s.toString());
            words.add(s.toString());
        }
    }

    private void tellLists() {
        for (int n = random.nextInt(20); n > 0; n--) {
            String a = words.get(random.nextInt(words.size()));
            String b = words.get(random.nextInt(words.size()));
            if (desk.means(a, b)) meanings.add(a + ">" + b);
        }
        for (int n = random.nextInt(25); n > 0; n--) {
            String a = words.get(random.nextInt(words.size()));
            int play = random.nextInt(10);
            if (desk.sign(a, play)) signs.add(a + ">" + play);
        }
    }

    /** Some of what the clue's words make become words that its ends mean, so that there is something to read. */
    private void tellAnswers() {
        List<Made> rows = new ArrayList<>();
        try {
            rows.addAll(rows(1, clue.length - 1));
            rows.addAll(rows(0, clue.length - 2));
        } catch (TooMany e) {
            rows.clear();
        }
        for (int n = 0; n < 3 && !rows.isEmpty(); n++) {
            String answer = rows.get(random.nextInt(rows.size())).letters;
            if (!words.contains(answer)) words.add(answer);
            String end = clue[random.nextBoolean() ? 0 : clue.length - 1];
            if (desk.means(end, answer)) meanings.add(end + ">" + answer);
        }
    }

    private void compareAll(String where) {
        TreeMap<String, Integer> ways = new TreeMap<>();
        TreeMap<String, Made> best = new TreeMap<>();
        try {
            made = 0;
            for (Made m : readings()) {
                ways.merge(m.letters, 1, Integer::sum);
                best.merge(m.letters, m, MadeForwardTest::better);
            }
        } catch (TooMany e) {
            leftOut++;
            return;
        }
        TreeSet<Integer> lengths = new TreeSet<>();
        for (String w : words) lengths.add(w.length());
        int c = 0;
        for (int length : lengths) {
            desk.clue(c, length, String.join(" ", clue));
            compare(where + " " + String.join(" ", clue), c, length, ways, best);
            c++;
        }
    }

    private void compare(String where, int c, int length, TreeMap<String, Integer> ways, TreeMap<String, Made> best) {
        int possible = 0;
        for (String w : words) {
            if (w.length() != length) continue;
            Made b = best.get(w);
            String want = b == null ? "0 0" : Math.min(1000, ways.get(w)) + " " + b.cost + " " + b.name;
            Desk.due(where + " by " + w, desk.read(c, w), want);
            if (b == null) continue;
            possible++;
            withReadings++;
            for (char x : b.name.toCharArray()) seen.merge(x, 1, Integer::sum);
        }
        Desk.due(where + " of " + length, desk.room.possible(c, 0), possible);
    }

    private static Made better(Made a, Made b) {
        if (a.cost != b.cost) return a.cost < b.cost ? a : b;
        return a.name.compareTo(b.name) <= 0 ? a : b;
    }

    // ---- what is made

    private void add(List<Made> all, String letters, String name, int cost) {
        if (letters.isEmpty() || letters.length() > LONGEST) return;
        made++;
        if (made > MOST_MADE) throw new TooMany();
        all.add(new Made(letters, name, cost));
    }

    private boolean isSign(int place, int play) {
        return signs.contains(clue[place] + ">" + play);
    }

    private static char at(int place) {
        return (char) ('A' + place);
    }

    private List<Made> readings() {
        List<Made> all = new ArrayList<>();
        int last = clue.length - 1;
        List<Made> first = meant(0);
        List<Made> second = meant(last);
        boolean linked = last >= 2 && isSign(1, Desk.LINK);
        if (last == 1) addLike(all, first, "=", second);
        if (last == 2 && linked) addLike(all, first, "kB=", second);
        addLike(all, first, "=", rows(1, last));
        if (linked) addLike(all, first, "=kB", rows(2, last));
        addLike(all, rows(0, last - 1), "=", second);
        if (last >= 2 && isSign(last - 1, Desk.LINK)) addLike(all, rows(0, last - 2), "k" + at(last - 1) + "=", second);
        return all;
    }

    /** A meaning and what makes it, if they are the same letters. */
    private void addLike(List<Made> all, List<Made> ahead, String between, List<Made> behind) {
        for (Made a : ahead) {
            for (Made b : behind) {
                if (a.letters.equals(b.letters)) add(all, a.letters, a.name + between + b.name, a.cost + b.cost);
            }
        }
    }

    private List<Made> rows(int from, int to) {
        List<Made> all = new ArrayList<>();
        if (from > to) return all;
        all.addAll(pieces(from, to));
        for (int k = from; k < to; k++) {
            List<Made> ahead = pieces(from, k);
            if (ahead.isEmpty()) continue;
            join(all, ahead, "", rows(k + 1, to));
            if (isSign(k + 1, Desk.LINK)) join(all, ahead, "k" + at(k + 1), rows(k + 2, to));
        }
        return all;
    }

    private void join(List<Made> all, List<Made> ahead, String between, List<Made> behind) {
        for (Made a : ahead) {
            for (Made b : behind) add(all, a.letters + b.letters, a.name + between + b.name, a.cost + b.cost);
        }
    }

    private List<Made> meant(int place) {
        List<Made> all = new ArrayList<>();
        for (String w : words) {
            if (meanings.contains(clue[place] + ">" + w)) add(all, w, "m" + at(place), 1);
        }
        return all;
    }

    private List<Made> plain(int place) {
        List<Made> all = meant(place);
        add(all, clue[place], "l" + at(place), 2);
        return all;
    }

    private List<Made> pieces(int from, int to) {
        if (from == to) return plain(from);
        List<Made> all = new ArrayList<>();
        addSigned(all, from, from + 1, to);
        addSigned(all, to, from, to - 1);
        if (to - from >= 2 && isSign(to - 1, Desk.IN)) addPutIn(all, "i" + at(to - 1), rows(from, to - 2), plain(to));
        if (to - from >= 2 && isSign(from + 1, Desk.ABOUT)) addPutIn(all, "a" + at(from + 1), rows(from + 2, to), plain(from));
        return all;
    }

    private void addPutIn(List<Made> all, String sign, List<Made> within, List<Made> around) {
        for (Made w : within) {
            for (Made a : around) {
                for (int gap = 1; gap < a.letters.length(); gap++) {
                    String letters = a.letters.substring(0, gap) + w.letters + a.letters.substring(gap);
                    add(all, letters, sign + "(" + w.name + ")" + gap + a.name, 1 + w.cost + a.cost);
                }
            }
        }
    }

    private void addSigned(List<Made> all, int sign, int from, int to) {
        StringBuilder places = new StringBuilder();
        StringBuilder heads = new StringBuilder();
        StringBuilder tails = new StringBuilder();
        StringBuilder letters = new StringBuilder();
        for (int k = from; k <= to; k++) {
            places.append(at(k));
            heads.append(clue[k].charAt(0));
            tails.append(clue[k].charAt(clue[k].length() - 1));
            letters.append(clue[k]);
        }
        String rest = at(sign) + "(" + places + ")";
        if (isSign(sign, Desk.SHUFFLE) && letters.length() <= LONGEST) {
            for (String s : orders(letters.toString())) {
                if (!s.equals(letters.toString())) add(all, s, "s" + rest, 1);
            }
        }
        if (isSign(sign, Desk.HEADS)) add(all, heads.toString(), "f" + rest, 1);
        if (isSign(sign, Desk.TAILS)) add(all, tails.toString(), "e" + rest, 1);
        if (isSign(sign, Desk.HIDDEN) && from < to) {
            for (String s : hidden(from, to)) add(all, s, "h" + rest, 1);
        }
        if (isSign(sign, Desk.TURN)) {
            for (Made m : rows(from, to)) {
                add(all, new StringBuilder(m.letters).reverse().toString(), "t" + at(sign) + "(" + m.name + ")", 1 + m.cost);
            }
        }
        if (from == to) addCut(all, sign, from);
    }

    private void addCut(List<Made> all, int sign, int place) {
        for (Made m : plain(place)) {
            int size = m.letters.length();
            String rest = at(sign) + "(" + m.name + ")";
            if (isSign(sign, Desk.BEHEAD)) add(all, m.letters.substring(1), "b" + rest, 1 + m.cost);
            if (isSign(sign, Desk.CURTAIL)) add(all, m.letters.substring(0, size - 1), "c" + rest, 1 + m.cost);
        }
    }

    private static TreeSet<String> orders(String letters) {
        TreeSet<String> all = new TreeSet<>();
        if (letters.isEmpty()) all.add("");
        for (int k = 0; k < letters.length(); k++) {
            if (letters.indexOf(letters.charAt(k)) < k) continue;
            for (String s : orders(letters.substring(0, k) + letters.substring(k + 1))) all.add(letters.charAt(k) + s);
        }
        return all;
    }

    /** What is left when the first word loses its head or more, the last one its tail or more, and neither is lost whole. */
    private TreeSet<String> hidden(int from, int to) {
        StringBuilder between = new StringBuilder();
        for (int k = from + 1; k < to; k++) between.append(clue[k]);
        TreeSet<String> all = new TreeSet<>();
        for (int lost = 1; lost < clue[from].length(); lost++) {
            for (int kept = 1; kept < clue[to].length(); kept++) {
                all.add(clue[from].substring(lost) + between + clue[to].substring(0, kept));
            }
        }
        return all;
    }
}
