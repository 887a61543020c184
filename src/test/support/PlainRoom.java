import java.util.ArrayList;
import java.util.LinkedHashMap;
import java.util.List;
import java.util.Map;
import java.util.NoSuchElementException;
import java.util.TreeMap;
import java.util.TreeSet;

/**
 * The document again, in the plainest way: every reading is written out as a name, nothing is
 * remembered between calls. It is slow, and there only to be compared with ClueRoom.
 */
final class PlainRoom {
    static final class Reading {
        final String name;
        final int cost;

        Reading(String name, int cost) {
            this.name = name;
            this.cost = cost;
        }
    }

    static final class TooMany extends RuntimeException {
        private static final long serialVersionUID = 1L;
    }

    private final List<Integer> tape = new ArrayList<>();
    private String out = "";
    private int today = 0;
    private final List<String> words = new ArrayList<>();
    private final List<Integer> wordDays = new ArrayList<>();
    private final Map<String, Integer> meanings = new LinkedHashMap<>();
    private final Map<String, Integer> signs = new LinkedHashMap<>();
    private final List<int[]> tellings = new ArrayList<>();
    private final List<int[]> tellingWords = new ArrayList<>();
    private final Map<Integer, Integer> lengths = new TreeMap<>();
    private final Map<Integer, int[]> lights = new TreeMap<>();
    private final List<int[]> solutions = new ArrayList<>();
    private final Map<Integer, Integer> entered = new TreeMap<>();
    private Map<Integer, Integer> first = new TreeMap<>();
    private List<int[]> unfairs = new ArrayList<>();
    private final List<String> sent = new ArrayList<>();
    private final List<Integer> sentDays = new ArrayList<>();

    int feed(int a, int b, int c, int d, int e) {
        if (tape.size() + 20 > 180) return -1;
        for (int x : new int[] {a, b, c, d, e}) {
            for (byte y : java.nio.ByteBuffer.allocate(4).putInt(x).array()) tape.add(y & 255);
        }
        return tape.size();
    }

    boolean end(int n) {
        if (n < 0 || n > tape.size()) return false;
        while (tape.size() > n) tape.remove(tape.size() - 1);
        return true;
    }

    int next(int n) {
        if (n < 0 || n > 999 || today + n > 999) return -1;
        today += n;
        return today;
    }

    private String takeTape() {
        StringBuilder s = new StringBuilder();
        for (int b : tape) s.append((char) b);
        tape.clear();
        return s.toString();
    }

    int word() {
        String s = takeTape();
        if (words.size() == 120 || !s.matches("[a-z]{1,10}") || words.contains(s)) return -1;
        words.add(s);
        wordDays.add(today);
        return words.size() - 1;
    }

    private boolean isWord(int w) {
        return w >= 0 && w < words.size();
    }

    boolean means(int a, int b) {
        if (!isWord(a) || !isWord(b) || a == b || meanings.containsKey(a + ">" + b) || meanings.size() == 240) return false;
        meanings.put(a + ">" + b, today);
        return true;
    }

    boolean sign(int w, int play) {
        if (!isWord(w) || play < 0 || play > 9 || signs.containsKey(w + ">" + play) || signs.size() == 120) return false;
        signs.put(w + ">" + play, today);
        return true;
    }

    int clue(int c, int length) {
        String s = takeTape();
        if (c < 0 || c > 15 || s.length() < 2 || s.length() > 8 || length < 1 || length > 10) return -1;
        for (char x : s.toCharArray()) if (!isWord(x)) return -1;
        if (lengths.containsKey(c) && lengths.get(c) != length || tellings.size() == 60) return -1;
        lengths.put(c, length);
        tellings.add(new int[] {c, today});
        tellingWords.add(s.chars().toArray());
        return s.length();
    }

    private static List<int[]> cellsOf(int row, int column, boolean down, int length) {
        List<int[]> cells = new ArrayList<>();
        for (int k = 0; k < length; k++) cells.add(down ? new int[] {row + k, column} : new int[] {row, column + k});
        return cells;
    }

    private List<int[]> cellsOf(int c) {
        int[] l = lights.get(c);
        return cellsOf(l[0], l[1], l[2] == 1, lengths.get(c));
    }

    boolean light(int c, int row, int column, boolean down) {
        if (!lengths.containsKey(c) || lights.containsKey(c)) return false;
        if (row < 0 || row > 8 || column < 0 || column > 8) return false;
        for (int[] cell : cellsOf(row, column, down, lengths.get(c))) {
            if (cell[0] > 8 || cell[1] > 8) return false;
            for (int o : lights.keySet()) {
                if ((lights.get(o)[2] == 1) != down) continue;
                for (int[] x : cellsOf(o)) if (x[0] == cell[0] && x[1] == cell[1]) return false;
            }
        }
        lights.put(c, new int[] {row, column, down ? 1 : 0});
        return true;
    }

    boolean solution(int c, int w) {
        if (!lights.containsKey(c) || !isWord(w) || words.get(w).length() != lengths.get(c) || solutions.size() == 60) return false;
        solutions.add(new int[] {c, w, today});
        return true;
    }

    private int solutionOf(int c, int t) {
        int w = -1;
        for (int[] s : solutions) if (s[0] == c && s[2] <= t) w = s[1];
        return w;
    }

    // ---- readings

    private int[] row;
    private int asOf;
    private long budget;

    private int[] rowOf(int c, int t) {
        int[] found = null;
        for (int k = 0; k < tellings.size(); k++) {
            if (tellings.get(k)[0] == c && tellings.get(k)[1] <= t) found = tellingWords.get(k);
        }
        return found;
    }

    private boolean isKnown(Integer day) {
        return day != null && day <= asOf;
    }

    private boolean isSign(int place, int play) {
        return isKnown(signs.get(row[place] + ">" + play));
    }

    private List<String> meant(int place) {
        List<String> all = new ArrayList<>();
        for (int w = 0; w < words.size(); w++) {
            if (isKnown(meanings.get(row[place] + ">" + w))) all.add(words.get(w));
        }
        return all;
    }

    private static char at(int place) {
        return (char) ('A' + place);
    }

    private String text(int place) {
        return words.get(row[place]);
    }

    private List<Reading> add(List<Reading> list, String name, int cost) {
        if (budget-- <= 0) throw new TooMany();
        list.add(new Reading(name, cost));
        return list;
    }

    private List<Reading> rows(int i, int j, String s) {
        List<Reading> all = new ArrayList<>();
        if (i > j || s.isEmpty()) return all;
        for (int k = i; k <= j; k++) {
            for (int cut = 1; cut <= s.length(); cut++) {
                if ((k == j) != (cut == s.length())) continue;
                for (Reading p : pieces(i, k, s.substring(0, cut))) {
                    if (k == j) add(all, p.name, p.cost);
                    else {
                        for (Reading r : rows(k + 1, j, s.substring(cut))) add(all, p.name + r.name, p.cost + r.cost);
                        if (isSign(k + 1, 9)) {
                            for (Reading r : rows(k + 2, j, s.substring(cut))) {
                                add(all, p.name + "k" + at(k + 1) + r.name, p.cost + r.cost);
                            }
                        }
                    }
                }
            }
        }
        return all;
    }

    /** By LETTERS or MEANING. */
    private List<Reading> plain(int place, String s) {
        List<Reading> all = new ArrayList<>();
        if (text(place).equals(s)) add(all, "l" + at(place), 2);
        for (String m : meant(place)) if (m.equals(s)) add(all, "m" + at(place), 1);
        return all;
    }

    private static String sorted(String s) {
        char[] x = s.toCharArray();
        java.util.Arrays.sort(x);
        return new String(x);
    }

    private List<Reading> pieces(int i, int j, String s) {
        List<Reading> all = new ArrayList<>();
        if (i == j) return plain(i, s);
        bySign(all, i, i + 1, j, s);
        bySign(all, j, i, j - 1, s);
        if (j - i >= 2) {
            if (isSign(j - 1, 7)) putIn(all, 'i', j - 1, j, i, j - 2, s);
            if (isSign(i + 1, 8)) putIn(all, 'a', i + 1, i, i + 2, j, s);
        }
        return all;
    }

    private void putIn(List<Reading> all, char play, int sign, int around, int from, int to, String s) {
        for (int p = 1; p < s.length(); p++) {
            for (int q = p + 1; q < s.length(); q++) {
                for (Reading o : plain(around, s.substring(0, p) + s.substring(q))) {
                    for (Reading r : rows(from, to, s.substring(p, q))) {
                        add(all, "" + play + at(sign) + "(" + r.name + ")" + p + o.name, 1 + r.cost + o.cost);
                    }
                }
            }
        }
    }

    private void bySign(List<Reading> all, int sign, int from, int to, String s) {
        StringBuilder whole = new StringBuilder();
        StringBuilder heads = new StringBuilder();
        StringBuilder tails = new StringBuilder();
        StringBuilder names = new StringBuilder();
        for (int k = from; k <= to; k++) {
            String x = text(k);
            whole.append(x);
            heads.append(x.charAt(0));
            tails.append(x.charAt(x.length() - 1));
            names.append(at(k));
        }
        String w = whole.toString();
        String rest = at(sign) + "(" + names + ")";
        if (isSign(sign, 0) && sorted(w).equals(sorted(s)) && !w.equals(s)) add(all, "s" + rest, 1);
        if (isSign(sign, 1) && heads.toString().equals(s)) add(all, "f" + rest, 1);
        if (isSign(sign, 2) && tails.toString().equals(s)) add(all, "e" + rest, 1);
        if (isSign(sign, 3) && to > from) {
            boolean there = false;
            for (int a = 1; a < text(from).length(); a++) {
                int b = a + s.length();
                int last = w.length() - text(to).length();
                if (b > last && b < w.length() && w.substring(a, b).equals(s)) there = true;
            }
            if (there) add(all, "h" + rest, 1);
        }
        if (isSign(sign, 4)) {
            for (Reading r : rows(from, to, new StringBuilder(s).reverse().toString())) {
                add(all, "t" + at(sign) + "(" + r.name + ")", 1 + r.cost);
            }
        }
        if (from == to) {
            List<String> how = new ArrayList<>();
            how.add("l" + text(from));
            for (String m : meant(from)) how.add("m" + m);
            for (String h : how) {
                String x = h.substring(1);
                int cost = h.charAt(0) == 'l' ? 3 : 2;
                String name = at(sign) + "(" + h.charAt(0) + at(from) + ")";
                if (isSign(sign, 5) && x.length() == s.length() + 1 && x.endsWith(s)) add(all, "b" + name, cost);
                if (isSign(sign, 6) && x.length() == s.length() + 1 && x.startsWith(s)) add(all, "c" + name, cost);
            }
        }
    }

    /** All readings, or null where the document asks for NONE. */
    private List<Reading> all(int c, int w, int t) {
        row = rowOf(c, t);
        asOf = t;
        budget = 20000;
        if (row == null || !isWord(w) || wordDays.get(w) > t || words.get(w).length() != lengths.get(c)) return null;
        String s = words.get(w);
        List<Reading> all = new ArrayList<>();
        int last = row.length - 1;
        boolean front = meant(0).contains(s);
        boolean back = meant(last).contains(s);
        if (front && back && last == 1) add(all, "mA=mB", 2);
        if (front && back && last == 2 && isSign(1, 9)) add(all, "mAkB=mC", 2);
        if (front) {
            for (Reading r : rows(1, last, s)) add(all, "mA=" + r.name, 1 + r.cost);
            if (last >= 2 && isSign(1, 9)) for (Reading r : rows(2, last, s)) add(all, "mA=kB" + r.name, 1 + r.cost);
        }
        if (back) {
            String name = "=m" + at(last);
            for (Reading r : rows(0, last - 1, s)) add(all, r.name + name, 1 + r.cost);
            if (last >= 2 && isSign(last - 1, 9)) {
                for (Reading r : rows(0, last - 2, s)) add(all, r.name + "k" + at(last - 1) + name, 1 + r.cost);
            }
        }
        return all;
    }

    int readings(int c, int w, int t) {
        List<Reading> all = all(c, w, t);
        return all == null ? -1 : Math.min(1000, all.size());
    }

    int best(int c, int w, int t) {
        List<Reading> all = all(c, w, t);
        if (all == null) return -1;
        Reading best = null;
        for (Reading r : all) {
            if (best == null || r.cost < best.cost || r.cost == best.cost && r.name.compareTo(best.name) < 0) best = r;
        }
        if (best == null) return 0;
        out = best.name;
        return best.cost;
    }

    int octet(int k) {
        if (k < 0 || k >= out.length()) throw new NoSuchElementException();
        return out.charAt(k);
    }

    private List<Integer> possibles(int c, int t) {
        List<Integer> found = new ArrayList<>();
        for (int w = 0; w < words.size(); w++) if (readings(c, w, t) > 0) found.add(w);
        return found;
    }

    int possible(int c, int t) {
        return rowOf(c, t) == null ? -1 : possibles(c, t).size();
    }

    int possibleAt(int c, int k, int t) {
        if (rowOf(c, t) == null) return -1;
        List<Integer> p = possibles(c, t);
        return k < 0 || k >= p.size() ? -1 : p.get(k);
    }

    // ---- lights

    private boolean isLit(int row, int column) {
        for (int c : lights.keySet()) for (int[] x : cellsOf(c)) if (x[0] == row && x[1] == column) return true;
        return false;
    }

    boolean enter(int row, int column, int letter) {
        if (!isLit(row, column) || letter < 0 || letter > 26) return false;
        entered.put(row * 9 + column, letter);
        return true;
    }

    int cell(int row, int column) {
        return isLit(row, column) ? entered.getOrDefault(row * 9 + column, 0) : -1;
    }

    /** For each crossed cell of light c: its place in c, the other light, its place there. */
    private List<int[]> crossed(int c) {
        List<int[]> all = new ArrayList<>();
        List<int[]> mine = cellsOf(c);
        for (int k = 0; k < mine.size(); k++) {
            for (int o : lights.keySet()) {
                if (o == c) continue;
                List<int[]> theirs = cellsOf(o);
                for (int n = 0; n < theirs.size(); n++) {
                    if (theirs.get(n)[0] == mine.get(k)[0] && theirs.get(n)[1] == mine.get(k)[1]) all.add(new int[] {k, o, n});
                }
            }
        }
        return all;
    }

    private Map<Integer, TreeSet<Integer>> lefts(int t) {
        Map<Integer, TreeSet<Integer>> left = new TreeMap<>();
        for (int c : lights.keySet()) {
            TreeSet<Integer> set = new TreeSet<>();
            for (int w : possibles(c, t)) {
                boolean agrees = true;
                for (int k = 0; k < lengths.get(c); k++) {
                    int[] x = cellsOf(c).get(k);
                    int e = cell(x[0], x[1]);
                    if (e != 0 && e != words.get(w).charAt(k) - 96) agrees = false;
                }
                if (agrees) set.add(w);
            }
            left.put(c, set);
        }
        boolean again = true;
        while (again) {
            again = false;
            for (int c : lights.keySet()) {
                for (int w : new ArrayList<>(left.get(c))) {
                    for (int[] x : crossed(c)) {
                        boolean one = false;
                        for (int o : left.get(x[1])) one |= words.get(o).charAt(x[2]) == words.get(w).charAt(x[0]);
                        if (!one && left.get(c).remove(w)) again = true;
                    }
                }
            }
        }
        return left;
    }

    int left(int c, int t) {
        return lights.containsKey(c) ? lefts(t).get(c).size() : -1;
    }

    int nextLight(int t) {
        Map<Integer, TreeSet<Integer>> left = lefts(t);
        for (int c : lights.keySet()) {
            boolean gap = false;
            for (int[] x : cellsOf(c)) gap |= cell(x[0], x[1]) == 0;
            if (gap && left.get(c).size() == 1) return c;
        }
        return -1;
    }

    int solve(int t) {
        int done = 0;
        for (int c = nextLight(t); c != -1; c = nextLight(t)) {
            String s = words.get(lefts(t).get(c).first());
            for (int k = 0; k < s.length(); k++) enter(cellsOf(c).get(k)[0], cellsOf(c).get(k)[1], s.charAt(k) - 96);
            done++;
        }
        return done;
    }

    private int tries;
    private int ways;
    private Map<Integer, Integer> firstWay;

    int fillings(int t) {
        if (lights.isEmpty()) return 0;
        tries = 0;
        ways = 0;
        Map<Integer, List<Integer>> may = new TreeMap<>();
        for (int c : lights.keySet()) may.put(c, possibles(c, t));
        fill(new ArrayList<>(lights.keySet()), may, new TreeMap<>());
        if (tries > 20000) return -2;
        if (ways > 0) first = firstWay;
        return ways;
    }

    private void fill(List<Integer> order, Map<Integer, List<Integer>> may, Map<Integer, Integer> chosen) {
        if (chosen.size() == order.size()) {
            ways++;
            if (ways == 1) firstWay = new TreeMap<>(chosen);
            return;
        }
        int c = order.get(chosen.size());
        for (int w : may.get(c)) {
            if (ways == 1000 || tries > 20000) return;
            tries++;
            boolean fits = tries <= 20000;
            for (int[] x : crossed(c)) {
                if (chosen.containsKey(x[1])) {
                    fits &= words.get(chosen.get(x[1])).charAt(x[2]) == words.get(w).charAt(x[0]);
                }
            }
            if (fits) {
                chosen.put(c, w);
                fill(order, may, chosen);
                chosen.remove(c);
            }
        }
    }

    int filled(int c) {
        return first.getOrDefault(c, -1);
    }

    int unfair(int t) {
        unfairs = new ArrayList<>();
        for (int c : lights.keySet()) {
            int s = solutionOf(c, t);
            List<Integer> may = possibles(c, t);
            List<int[]> crossed = crossed(c);
            if (s == -1) unfairs.add(new int[] {1, c});
            if (s != -1 && !may.contains(s)) unfairs.add(new int[] {2, c});
            boolean three = false;
            boolean five = false;
            if (s != -1) {
                for (int w : may) {
                    boolean same = w != s;
                    for (int[] x : crossed) same &= words.get(w).charAt(x[0]) == words.get(s).charAt(x[0]);
                    three |= same;
                }
                for (int[] x : crossed) {
                    int o = solutionOf(x[1], t);
                    five |= o != -1 && words.get(o).charAt(x[2]) != words.get(s).charAt(x[0]);
                }
            }
            if (three) unfairs.add(new int[] {3, c});
            if (crossed.size() * 2 < lengths.get(c)) unfairs.add(new int[] {4, c});
            if (five) unfairs.add(new int[] {5, c});
        }
        return unfairs.size();
    }

    int told(int k, int what) {
        if (k < 0 || k >= unfairs.size() || what < 0 || what > 1) throw new NoSuchElementException();
        return unfairs.get(k)[what];
    }

    private int letters() {
        int n = 0;
        for (int c : lights.keySet()) n += lengths.get(c);
        return n;
    }

    int send() {
        String s = takeTape();
        if (sent.size() == 30 || lights.isEmpty() || s.length() != letters() || !s.matches("[a-z]*")) return -1;
        sent.add(s);
        sentDays.add(today);
        return sent.size() - 1;
    }

    int right(int g, int t) {
        if (g < 0 || g >= sent.size()) return -1;
        String s = sent.get(g);
        if (sentDays.get(g) > t || s.length() != letters()) return 0;
        Map<Integer, String> parts = new TreeMap<>();
        int at = 0;
        for (int c : lights.keySet()) {
            parts.put(c, s.substring(at, at + lengths.get(c)));
            at += lengths.get(c);
        }
        for (int c : lights.keySet()) {
            for (int[] x : crossed(c)) if (parts.get(c).charAt(x[0]) != parts.get(x[1]).charAt(x[2])) return 0;
            int w = words.indexOf(parts.get(c));
            if (w == -1 || w != solutionOf(c, t) && !possibles(c, t).contains(w)) return 0;
        }
        return 1;
    }

    int winner(int t) {
        for (int g = 0; g < sent.size(); g++) if (right(g, t) == 1) return g;
        return -1;
    }

    int count(int what) {
        int[] all = {today, words.size(), meanings.size(), signs.size(), lengths.size(), lights.size(), sent.size(), tape.size(), out.length()};
        return what < 0 || what >= all.length ? -1 : all[what];
    }
}
