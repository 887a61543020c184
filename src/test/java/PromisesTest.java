/** For each promise of the document: ordinary inputs, the edges that it names, and wrong inputs. */
public final class PromisesTest {

    public static void main(String[] args) {
        promise1NewObject();
        promise2Feed();
        promise3End();
        promise4Next();
        promise5Word();
        promise5WordsLimit();
        promise6Means();
        promise6MeansLimit();
        promise7Sign();
        promise8Clue();
        promise8ClueLimit();
        promise9Light();
        promise10Solution();
        promise14And15Possible();
        promise16And17EnterAndCell();
        promise18To20LeftNextSolve();
        promise21And22Fillings();
        promise21ThousandFillings();
        promise21Tries();
        promise21LastTry();
        promise23And24Unfair();
        promise25To27Grids();
        promise28Count();
        Desk.close();
    }

    private static void due(String what, Object got, Object want) {
        Desk.due(what, got, want);
    }

    private static void promise1NewObject() {
        Desk d = new Desk();
        due("NONE", ClueRoom.NONE, -1);
        for (int what = 0; what <= 8; what++) due("new count " + what, d.room.count(what), 0);
        due("new octet", d.octetThrows(0), true);
        due("new told", d.toldThrows(0, 0), true);
        due("new filled", d.room.filled(0), -1);
        due("new fillings", d.room.fillings(0), 0);
        due("new nextLight", d.room.nextLight(0), -1);
        due("new solve", d.room.solve(0), 0);
        due("new unfair", d.room.unfair(0), 0);
        due("new winner", d.room.winner(0), -1);
        due("new possible", d.room.possible(0, 0), -1);
        due("new cell", d.room.cell(0, 0), -1);
    }

    private static void promise2Feed() {
        Desk d = new Desk();
        for (int k = 1; k <= 9; k++) due("feed " + k, d.room.feed(0x61626364, -1, 0, Integer.MIN_VALUE, k), 20 * k);
        due("feed beyond 180", d.room.feed(1, 2, 3, 4, 5), -1);
        due("tape after that", d.room.count(7), 180);
        d.room.end(4);
        due("highest byte first", d.room.word(), 0);
        due("abcd is there", d.tell("abcd"), -1);
        d.room.feed(0, 0, 0, 0, 0x61626300);
        d.room.end(0);
        d.room.feed(0x61620000, 0, 0, 0, 0);
        d.room.end(2);
        due("a feed behind a short tape", d.room.feed(0x63646500, 0, 0, 0, 0), 22);
        d.room.end(5);
        d.room.word();
        due("they stood one behind the other", d.tell("abcde"), -1);
        for (int k = 1; k <= 8; k++) d.room.feed(0, 0, 0, 0, 0);
        d.type("x");
        due("161 bytes", d.room.count(7), 161);
        due("20 more are too many", d.room.feed(0, 0, 0, 0, 0), -1);
    }

    private static void promise3End() {
        Desk d = new Desk();
        due("end(0) of nothing", d.room.end(0), true);
        due("end(1) of nothing", d.room.end(1), false);
        d.room.feed(0, 0, 0, 0, 0);
        due("end(-1)", d.room.end(-1), false);
        due("end(21)", d.room.end(21), false);
        due("end of a great number", d.room.end(Integer.MAX_VALUE), false);
        due("end of the least number", d.room.end(Integer.MIN_VALUE), false);
        due("false ones change nothing", d.room.count(7), 20);
        due("end(20)", d.room.end(20), true);
        due("still 20", d.room.count(7), 20);
        due("end(7)", d.room.end(7), true);
        due("7 stay", d.room.count(7), 7);
        due("end(8) then", d.room.end(8), false);
    }

    private static void promise4Next() {
        Desk d = new Desk();
        due("next(0)", d.room.next(0), 0);
        due("next(-1)", d.room.next(-1), -1);
        due("next(1000)", d.room.next(1000), -1);
        due("next(greatest)", d.room.next(Integer.MAX_VALUE), -1);
        due("next(3)", d.room.next(3), 3);
        due("next behind 999", d.room.next(997), -1);
        due("TODAY stays", d.room.count(0), 3);
        due("next to 999", d.room.next(996), 999);
        due("next(0) there", d.room.next(0), 999);
        due("next(1) there", d.room.next(1), -1);
        due("next(999) at first", new Desk().room.next(999), 999);
    }

    private static void promise5Word() {
        Desk d = new Desk();
        due("an empty tape", d.room.word(), -1);
        due("one letter", d.tell("a"), 0);
        due("ten letters", d.tell("abcdefghiz"), 1);
        due("eleven", d.tell("abcdefghijk"), -1);
        due("the tape is empty behind a wrong one", d.room.count(7), 0);
        due("a capital", d.tell("aB"), -1);
        due("the sign ahead of a", d.tell("`"), -1);
        due("the sign behind z", d.tell("{"), -1);
        due("a blank", d.tell("a "), -1);
        due("a zero byte", d.tell("a\0"), -1);
        due("a high byte", d.tell("a" + (char) 225), -1);
        due("it is there", d.tell("a"), -1);
        due("z", d.tell("z"), 2);
        due("the tape is empty behind a right one", d.room.count(7), 0);
        due("a word that starts another", d.tell("abc"), 3);
        due("three words and one more", d.room.count(1), 4);
    }

    private static void promise5WordsLimit() {
        Desk d = new Desk();
        for (int k = 0; k < 120; k++) due("word " + k, d.tell("" + (char) ('a' + k / 20) + (char) ('a' + k % 20)), k);
        due("the 121st word", d.tell("zz"), -1);
        due("its tape is empty", d.room.count(7), 0);
        due("words", d.room.count(1), 120);
    }

    private static void promise6Means() {
        Desk d = new Desk();
        d.w("a");
        d.w("b");
        due("means itself", d.room.means(0, 0), false);
        due("no word b", d.room.means(0, 2), false);
        due("no word a", d.room.means(2, 0), false);
        due("below 0", d.room.means(-1, 0), false);
        due("below 0 behind", d.room.means(0, -1), false);
        due("far", d.room.means(0, Integer.MAX_VALUE), false);
        due("told", d.room.means(0, 1), true);
        due("told again", d.room.means(0, 1), false);
        due("the other way", d.room.means(1, 0), true);
        due("meanings", d.room.count(2), 2);
        d.room.next(1);
        due("told again on another day", d.room.means(0, 1), false);
    }

    private static void promise6MeansLimit() {
        Desk d = new Desk();
        for (int k = 0; k < 17; k++) d.w("" + (char) ('a' + k));
        boolean all = true;
        for (int a = 0; a < 16; a++) {
            for (int b = 0; b < 16; b++) {
                if (a != b) all &= d.room.means(a, b);
            }
        }
        due("240 meanings", all, true);
        due("the 241st", d.room.means(0, 16), false);
        due("meanings", d.room.count(2), 240);
    }

    private static void promise7Sign() {
        Desk d = new Desk();
        for (int k = 0; k < 13; k++) d.w("" + (char) ('a' + k));
        due("play -1", d.room.sign(0, -1), false);
        due("play 10", d.room.sign(0, 10), false);
        due("word -1", d.room.sign(-1, 0), false);
        due("word 13", d.room.sign(13, 0), false);
        boolean all = true;
        for (int w = 0; w < 12; w++) {
            for (int play = 0; play < 10; play++) {
                all &= d.room.sign(w, play);
                due("told again", d.room.sign(w, play), false);
            }
        }
        due("120 signs", all, true);
        due("the 121st", d.room.sign(12, 0), false);
        due("signs", d.room.count(3), 120);
    }

    private static void promise8Clue() {
        Desk d = new Desk();
        for (int k = 0; k < 9; k++) d.w("" + (char) ('a' + k));
        due("clue 0", d.clue(0, 1, "a b"), 2);
        due("the tape is empty", d.room.count(7), 0);
        due("clue 15", d.clue(15, 10, "a b c d e f g h"), 8);
        due("clue -1", d.clue(-1, 3, "a b"), -1);
        due("the tape is empty behind a wrong one", d.room.count(7), 0);
        due("clue 16", d.clue(16, 3, "a b"), -1);
        due("one word", d.clue(1, 3, "a"), -1);
        due("no word", d.room.clue(1, 3), -1);
        due("nine words", d.clue(1, 3, "a b c d e f g h i"), -1);
        due("length 0", d.clue(1, 0, "a b"), -1);
        due("length 11", d.clue(1, 11, "a b"), -1);
        due("length below 0", d.clue(1, Integer.MIN_VALUE, "a b"), -1);
        due("another length", d.clue(0, 2, "a b"), -1);
        d.type("" + (char) 0 + (char) 9);
        due("no such word", d.room.clue(1, 3), -1);
        d.type("" + (char) 0 + (char) 255);
        due("a high byte", d.room.clue(1, 3), -1);
        due("one word twice", d.clue(1, 3, "a a"), 2);
        due("clues", d.room.count(4), 3);
        due("told anew", d.clue(0, 1, "b a c"), 3);
        due("clues still", d.room.count(4), 3);
        tellAnewByDays();
    }

    private static void tellAnewByDays() {
        Desk d = new Desk();
        d.means("pup", "dog");
        d.means("hound", "dog");
        d.means("cur", "dog");
        d.room.next(5);
        d.clue(0, 3, "pup hound");
        d.clue(0, 3, "pup dog");
        d.room.next(2);
        d.clue(0, 3, "pup cur hound");
        int dog = d.w("dog");
        due("ahead of the first telling", d.room.readings(0, dog, 4), -1);
        due("by the last telling of that day", d.room.readings(0, dog, 5), 1);
        d.room.best(0, dog, 6);
        due("its name", d.out(), "mA=lB");
        due("by the newest telling", d.room.readings(0, dog, 7), 0);
        due("later than today", d.room.readings(0, dog, Integer.MAX_VALUE), 0);
        due("a far day ahead of all", d.room.readings(0, dog, Integer.MIN_VALUE), -1);
    }

    private static void promise8ClueLimit() {
        Desk d = new Desk();
        d.w("a");
        d.w("b");
        for (int k = 0; k < 60; k++) due("telling " + k, d.clue(k % 16, 1, "a b"), 2);
        due("the 61st telling", d.clue(0, 1, "a b"), -1);
        due("clues", d.room.count(4), 16);
    }

    private static void promise9Light() {
        Desk d = new Desk();
        d.clue(0, 3, "a b");
        d.clue(1, 3, "a b");
        d.clue(2, 9, "a b");
        d.clue(3, 10, "a b");
        d.clue(4, 1, "a b");
        d.clue(5, 2, "a b");
        due("clue -1", d.room.light(-1, 0, 0, false), false);
        due("clue 16", d.room.light(16, 0, 0, false), false);
        due("a clue that is not told", d.room.light(6, 0, 0, false), false);
        due("row -1", d.room.light(0, -1, 0, false), false);
        due("row 9", d.room.light(0, 9, 0, false), false);
        due("column -1", d.room.light(0, 0, -1, true), false);
        due("column 9", d.room.light(0, 0, 9, true), false);
        due("over the right edge", d.room.light(0, 4, 7, false), false);
        due("over the lower edge", d.room.light(0, 7, 4, true), false);
        due("a far cell", d.room.light(0, Integer.MAX_VALUE, Integer.MAX_VALUE, true), false);
        due("to the right edge", d.room.light(0, 4, 6, false), true);
        due("it has one", d.room.light(0, 6, 0, false), false);
        due("both across", d.room.light(1, 4, 4, false), false);
        due("side by side", d.room.light(1, 4, 3, false), true);
        due("nine cells and no more", d.room.light(2, 1, 6, true), false);
        due("nine cells", d.room.light(2, 0, 6, true), true);
        due("ten cells", d.room.light(3, 0, 0, false), false);
        due("one cell, both down", d.room.light(4, 8, 6, true), false);
        due("one cell, across over down", d.room.light(4, 8, 6, false), true);
        due("two cells over the edge", d.room.light(5, 8, 8, false), false);
        due("lights", d.room.count(5), 4);
        due("a cell of a light", d.room.cell(8, 6), 0);
    }

    private static void promise10Solution() {
        Desk d = new Desk();
        d.means("pup", "dog");
        d.means("cur", "dog");
        d.clue(0, 3, "pup cur");
        d.clue(1, 3, "pup cur");
        d.w("cat");
        d.w("mouse");
        due("no light yet", d.room.solution(0, d.w("dog")), false);
        d.room.light(0, 0, 0, false);
        due("light -1", d.room.solution(-1, d.w("dog")), false);
        due("light 16", d.room.solution(16, d.w("dog")), false);
        due("a clue without a light", d.room.solution(1, d.w("dog")), false);
        due("another length", d.room.solution(0, d.w("mouse")), false);
        due("no such word", d.room.solution(0, 99), false);
        due("word -1", d.room.solution(0, -1), false);
        due("told", d.room.solution(0, d.w("cat")), true);
        due("told again", d.room.solution(0, d.w("cat")), true);
        d.room.next(4);
        due("anew", d.room.solution(0, d.w("dog")), true);
        due("as it was", d.unfair(3), "2@0 3@0 4@0");
        due("as it is", d.unfair(4), "4@0");
        for (int k = 3; k < 60; k++) due("solution " + k, d.room.solution(0, d.w("dog")), true);
        due("the 61st", d.room.solution(0, d.w("dog")), false);
    }

    private static void promise14And15Possible() {
        Desk d = new Desk();
        d.means("x", "dog");
        d.means("x", "cat");
        d.means("x", "horse");
        d.means("y", "cat");
        d.room.next(2);
        d.means("y", "horse");
        d.clue(0, 3, "x y");
        d.room.next(1);
        d.means("y", "dog");
        due("clue -1", d.room.possible(-1, 3), -1);
        due("clue 16", d.room.possible(16, 3), -1);
        due("a clue that is not told", d.room.possible(1, 3), -1);
        due("not known yet", d.room.possible(0, 1), -1);
        due("of its length only", d.room.possible(0, 2), 1);
        due("one more later", d.room.possible(0, 3), 2);
        due("by rising words", d.room.possibleAt(0, 0, 3), Math.min(d.w("dog"), d.w("cat")));
        due("the second", d.room.possibleAt(0, 1, 3), Math.max(d.w("dog"), d.w("cat")));
        due("the third", d.room.possibleAt(0, 2, 3), -1);
        due("as it was", d.room.possibleAt(0, 0, 2), d.w("cat"));
        due("and no more", d.room.possibleAt(0, 1, 2), -1);
        due("k below 0", d.room.possibleAt(0, -1, 3), -1);
        due("of no clue", d.room.possibleAt(1, 0, 3), -1);
        due("of clue -1", d.room.possibleAt(-1, 0, 3), -1);
        due("of a clue not known", d.room.possibleAt(0, 0, 1), -1);
        d.clue(1, 5, "y y");
        due("a clue without any", d.room.possible(1, 3), 1);
        d.clue(2, 4, "x y");
        due("none", d.room.possible(2, 3), 0);
    }

    private static void promise16And17EnterAndCell() {
        Desk d = Desk.small();
        due("row -1", d.room.enter(-1, 0, 1), false);
        due("column 9", d.room.enter(0, 9, 1), false);
        due("a cell of no light", d.room.enter(2, 0, 1), false);
        due("letter -1", d.room.enter(0, 0, -1), false);
        due("letter 27", d.room.enter(0, 0, 27), false);
        due("letter 26", d.room.enter(0, 0, 26), true);
        due("it stands", d.room.cell(0, 0), 26);
        due("another", d.room.enter(0, 0, 1), true);
        due("that stands", d.room.cell(0, 0), 1);
        due("none", d.room.enter(0, 0, 0), true);
        due("nothing stands", d.room.cell(0, 0), 0);
        due("cell of no light", d.room.cell(2, 0), -1);
        due("cell -1", d.room.cell(0, -1), -1);
        due("cell 9", d.room.cell(9, 0), -1);
    }

    private static void promise18To20LeftNextSolve() {
        Desk d = Desk.small();
        due("left", d.room.left(0, 0), 4);
        due("left of none", d.room.left(3, 0), -1);
        due("left of -1", d.room.left(-1, 0), -1);
        due("left of 16", d.room.left(16, 0), -1);
        due("left ahead of all", d.room.left(0, -1), 0);
        due("next of none", d.room.nextLight(0), -1);
        due("solve of none", d.room.solve(0), 0);
        d.room.enter(1, 1, 3);
        due("left by a far cell", d.room.left(0, 0), 1);
        due("left between", d.room.left(1, 0), 1);
        due("next", d.room.nextLight(0), 0);
        due("next ahead of all", d.room.nextLight(-1), -1);
        due("solve ahead of all", d.room.solve(-1), 0);
        due("solve, of which the third is full by the others", d.room.solve(0), 2);
        due("entered", d.room.cell(0, 0) + " " + d.room.cell(0, 1) + " " + d.room.cell(1, 0), "3 4 4");
        due("nothing more", d.room.nextLight(0), -1);
        due("solve again", d.room.solve(0), 0);
        due("left when entered", d.room.left(0, 0), 1);
        d.room.enter(0, 1, 1);
        due("left when it disagrees", d.room.left(0, 0), 0);
        due("left of one that crosses it", d.room.left(2, 0), 0);
        Desk e = Desk.small();
        e.room.enter(0, 0, 1);
        e.room.enter(0, 1, 2);
        due("next of those that have a gap", e.room.nextLight(0), 1);
        e.room.enter(1, 0, 2);
        due("next behind those that are full", e.room.nextLight(0), 2);
        due("solve the rest", e.room.solve(0), 1);
    }

    private static void promise21And22Fillings() {
        Desk d = Desk.small();
        due("filled ahead of any", d.room.filled(0), -1);
        due("fillings", d.room.fillings(0), 4);
        due("filled", d.room.filled(0) + " " + d.room.filled(1) + " " + d.room.filled(2), "0 0 1");
        due("filled of none", d.room.filled(3), -1);
        due("filled of -1", d.room.filled(-1), -1);
        due("filled of 16", d.room.filled(16), -1);
        d.room.enter(0, 0, 26);
        due("whatever is entered", d.room.fillings(0), 4);
        due("ahead of all", d.room.fillings(-1), 0);
        due("filled stays when none was told", d.room.filled(2), 1);
        d.clue(3, 2, "x y");
        d.room.light(3, 0, 1, true);
        due("filled of a later light", d.room.filled(3), -1);
        due("with one light more", d.room.fillings(0), 4);
        due("filled of it then", d.room.filled(3), 1);
        d.clue(4, 1, "x y");
        d.room.light(4, 8, 8, true);
        due("with a light that nothing is possible for", d.room.fillings(0), 0);
        due("filled stays then", d.room.filled(3), 1);
    }

    /** A clue whose possible words are the first so many of the list: shuffles of one word. */
    private static void shuffles(Desk d, int c, String by, int many, String[] list) {
        d.w(by);
        for (int k = 0; k < many; k++) d.means(by, list[k]);
        d.clue(c, 5, by + " s abcde");
        d.room.light(c, c, 0, false);
        Desk.due("possible for clue " + c, d.room.possible(c, 0), many);
    }

    private static String[] orders(int many) {
        String[] all = new String[many];
        int found = 0;
        for (int k = 1; found < many; k++) {
            StringBuilder rest = new StringBuilder("abcde");
            StringBuilder s = new StringBuilder();
            for (int left = 5, n = k; left > 0; left--) {
                s.append(rest.charAt(n % left));
                rest.deleteCharAt(n % left);
                n /= left;
            }
            all[found++] = s.toString();
        }
        return all;
    }

    private static void promise21ThousandFillings() {
        Desk d = new Desk();
        d.sign("s", Desk.SHUFFLE);
        String[] list = orders(11);
        shuffles(d, 0, "x", 10, list);
        shuffles(d, 1, "y", 9, list);
        shuffles(d, 2, "z", 11, list);
        due("990 ways", d.room.fillings(0), 990);
        shuffles(d, 3, "z", 11, list);
        due("the 1000th way ends it", d.room.fillings(0), 1000);
        due("the first one", d.room.filled(3), d.w(list[0]));
    }

    private static void promise21Tries() {
        Desk d = new Desk();
        d.sign("s", Desk.SHUFFLE);
        String[] list = orders(36);
        shuffles(d, 0, "x", 20, list);
        due("20 ways first", d.room.fillings(0), 20);
        shuffles(d, 1, "y", 27, list);
        shuffles(d, 2, "z", 36, list);
        d.clue(3, 1, "x y");
        d.room.light(3, 8, 8, false);
        due("20000 tries are looked through", d.room.fillings(0), 0);
        Desk e = new Desk();
        e.sign("s", Desk.SHUFFLE);
        list = orders(59);
        shuffles(e, 0, "x", 59, list);
        due("59 ways first", e.room.fillings(0), 59);
        due("the first of them", e.room.filled(0), e.w(list[0]));
        shuffles(e, 1, "y", 13, list);
        shuffles(e, 2, "z", 25, list);
        e.clue(3, 1, "x y");
        e.room.light(3, 8, 8, false);
        due("20001 tries are given up", e.room.fillings(0), -2);
        due("filled is of the call that told any", e.room.filled(0), e.w(list[0]));
        due("a light of the one given up", e.room.filled(1), -1);
    }

    private static String[] ordersFrom(String firsts, int many, String last) {
        String[] some = new String[many];
        int found = 0;
        for (String s : orders(118)) {
            if (found < many - 1 && firsts.indexOf(s.charAt(0)) >= 0) some[found++] = s;
        }
        some[found] = last;
        return some;
    }

    /** Clues 0 and 2 cross at their first letters, which only the last words of both have alike. */
    private static void promise21LastTry() {
        Desk d = new Desk();
        d.sign("s", Desk.SHUFFLE);
        String[] as = ordersFrom("a", 20, "edcba");
        String[] bs = ordersFrom("bc", 36, "edcba");
        for (int k = 0; k < 19; k++) d.w(as[k]);
        for (int k = 0; k < 36; k++) d.w(bs[k]);
        for (String s : as) d.means("x", s);
        for (int k = 0; k < 27; k++) d.means("y", bs[k]);
        for (String s : bs) d.means("z", s);
        d.clue(0, 5, "x s abcde");
        d.clue(1, 5, "y s abcde");
        d.clue(2, 5, "z s abcde");
        d.room.light(0, 0, 0, false);
        d.room.light(1, 8, 0, false);
        d.room.light(2, 0, 0, true);
        due("possible", d.room.possible(0, 0) + " " + d.room.possible(1, 0) + " " + d.room.possible(2, 0), "20 27 36");
        due("the 20000th try is a way", d.room.fillings(0), 27);
        due("the first way", d.room.filled(0) + " " + d.room.filled(1), d.w("edcba") + " " + d.w(bs[0]));
    }

    private static void promise23And24Unfair() {
        Desk d = new Desk();
        for (String s : new String[] {"dog", "dig", "got", "gas"}) d.w(s);
        d.means("pup", "dog");
        d.means("cur", "dog");
        d.means("run", "got");
        d.means("has", "got");
        d.clue(0, 3, "pup cur");
        d.clue(1, 3, "run has");
        d.clue(2, 3, "run has");
        d.room.light(0, 0, 0, false);
        d.room.light(1, 0, 2, true);
        due("no solutions", d.unfair(0), "1@0 4@0 1@1 4@1");
        d.room.solution(0, d.w("dog"));
        due("one solution", d.unfair(0), "4@0 1@1 4@1");
        d.room.solution(1, d.w("got"));
        due("both", d.unfair(0), "4@0 4@1");
        d.room.light(2, 1, 2, false);
        due("half and more crossed", d.unfair(0), "4@0 1@2 4@2");
        d.room.solution(1, d.w("gas"));
        due("a solution without a reading, nothing like it", d.unfair(0), "4@0 2@1 1@2 4@2");
        d.room.solution(2, d.w("got"));
        due("a clash of solutions", d.unfair(0), "4@0 2@1 5@1 4@2 5@2");
        due("told 4", d.room.told(4, 0) + " " + d.room.told(4, 1), "5 2");
        due("told 5", d.toldThrows(5, 0), true);
        due("told -1", d.toldThrows(-1, 0), true);
        due("told what 2", d.toldThrows(0, 2), true);
        due("told what -1", d.toldThrows(0, -1), true);
        d.means("pup", "dig");
        d.means("cur", "dig");
        due("another word like it", d.unfair(0), "3@0 4@0 2@1 5@1 4@2 5@2");
        due("ahead of all", d.unfair(-1), "1@0 4@0 1@1 1@2 4@2");
        due("told is of the latest", d.room.told(0, 0), 1);
    }

    private static void promise25To27Grids() {
        Desk d = Desk.small();
        Desk none = new Desk();
        due("no lights", none.send("ab"), -1);
        due("no lights, no letters", none.room.send(), -1);
        due("a right one", d.send("ababba"), 0);
        due("the tape is empty", d.room.count(7), 0);
        due("too few letters", d.send("ababb"), -1);
        due("the tape is empty behind a wrong one", d.room.count(7), 0);
        due("too many letters", d.send("ababbaa"), -1);
        due("a capital", d.send("ababbA"), -1);
        due("no letters", d.room.send(), -1);
        due("crossed cells differ", d.send("abcddc"), 1);
        due("a word that is not possible", d.send("abacca"), 2);
        due("no word", d.send("azabba"), 3);
        d.room.next(3);
        due("a later one", d.send("cdcddc"), 4);
        due("right", d.room.right(0, 0), 1);
        due("right later", d.room.right(0, 999), 1);
        due("right ahead of all", d.room.right(0, -1), 0);
        due("not crossed alike", d.room.right(1, 3), 0);
        due("not possible", d.room.right(2, 3), 0);
        due("not a word", d.room.right(3, 3), 0);
        due("not sent yet", d.room.right(4, 2), 0);
        due("sent", d.room.right(4, 3), 1);
        due("grid -1", d.room.right(-1, 3), -1);
        due("grid 5", d.room.right(5, 3), -1);
        due("the winner", d.room.winner(3), 0);
        due("no winner ahead of all", d.room.winner(-1), -1);
        rightBySolutions(d);
        gridsLimit();
    }

    private static void rightBySolutions(Desk d) {
        d.w("ac");
        d.w("ca");
        d.room.next(1);
        d.room.solution(1, d.w("ac"));
        d.room.solution(2, d.w("ca"));
        due("by solutions", d.room.right(2, 4), 1);
        due("not as of then", d.room.right(2, 3), 0);
        due("possible ones are right still", d.room.right(0, 4), 1);
        d.clue(3, 2, "x y");
        d.room.light(3, 8, 0, false);
        due("not as many letters now", d.room.right(0, 4), 0);
        due("no winner then", d.room.winner(4), -1);
        due("one with as many", d.send("abacca" + "ba"), 5);
        due("is the winner", d.room.winner(4), 5);
    }

    private static void gridsLimit() {
        Desk d = Desk.small();
        for (int k = 0; k < 30; k++) due("grid " + k, d.send("zzzzzz"), k);
        due("the 31st", d.send("zzzzzz"), -1);
        due("grids", d.room.count(6), 30);
    }

    private static void promise28Count() {
        Desk d = Desk.small();
        d.room.next(7);
        d.sign("x", Desk.LINK);
        d.send("ababba");
        d.room.best(0, 0, 7);
        d.type("abc");
        int[] want = {7, 6, 8, 1, 3, 3, 1, 3, 5};
        for (int what = 0; what <= 8; what++) due("count " + what, d.room.count(what), want[what]);
        due("count 9", d.room.count(9), -1);
        due("count -1", d.room.count(-1), -1);
    }
}
