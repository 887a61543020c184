import java.util.function.Function;

/**
 * Each boundary case of what is told, by a test of its own: the tape, days, words, meanings, signs,
 * clues, lights and solutions (promises 1 to 10, and the terms that they rest on).
 */
public final class TellingBoundsTest {
    private static final int LEAST = Integer.MIN_VALUE;
    private static final int GREATEST = Integer.MAX_VALUE;

    public static void main(String[] args) {
        newObject();
        tape();
        days();
        asOf();
        words();
        meanings();
        signs();
        clues();
        lights();
        solutions();
        Desk.close();
    }

    private static void due(String what, Object got, Object want) {
        Desk.due(what, got, want);
    }

    // ---- Promise 1: 'No WORDS, CLUES, LIGHTS; TODAY 0; an empty tape, OUT.'

    private static void newObject() {
        newObjectCounts();
        newObjectHasNoWord();
        newObjectHasNoClue();
        newObjectHasNoLight();
        newObjectsAreApart();
    }

    private static void newObjectCounts() {
        ClueRoom room = new ClueRoom();
        for (int what = 0; what <= 8; what++) due("new count " + what, room.count(what), 0);
    }

    private static void newObjectHasNoWord() {
        ClueRoom room = new ClueRoom();
        due("new means", room.means(0, 1), false);
        due("new sign", room.sign(0, 0), false);
        due("new word()", room.word(), -1);
        room.feed(0, 0, 0, 0, 0);
        room.end(2);
        due("new clue", room.clue(0, 1), -1);
    }

    private static void newObjectHasNoClue() {
        ClueRoom room = new ClueRoom();
        due("new readings", room.readings(0, 0, 0), -1);
        due("new best", room.best(0, 0, 0), -1);
        due("new possible", room.possible(0, 0), -1);
        due("new possibleAt", room.possibleAt(0, 0, 0), -1);
        due("new light", room.light(0, 0, 0, false), false);
    }

    private static void newObjectHasNoLight() {
        ClueRoom room = new ClueRoom();
        due("new solution", room.solution(0, 0), false);
        due("new enter", room.enter(0, 0, 1), false);
        due("new cell", room.cell(0, 0), -1);
        due("new left", room.left(0, 0), -1);
        due("new nextLight", room.nextLight(0), -1);
        due("new solve", room.solve(0), 0);
        due("new fillings", room.fillings(0), 0);
        due("new filled", room.filled(0), -1);
        due("new unfair", room.unfair(0), 0);
        due("new send", room.send(), -1);
        due("new right", room.right(0, 0), -1);
        due("new winner", room.winner(0), -1);
    }

    private static void newObjectsAreApart() {
        Desk first = Desk.small();
        first.room.next(3);
        first.type("abc");
        first.room.fillings(3);
        first.room.unfair(3);
        newObjectCounts();
        newObjectHasNoLight();
        due("the first one stays", first.room.count(7) + " " + first.room.count(0) + " " + first.room.filled(0), "3 3 0");
    }

    // ---- Promises 2 and 3: feed, end

    private static void tape() {
        feedToJust180();
        feedFromEachSize();
        refusedFeedLeavesTheBytes();
        feedPutsTheHighestFirst();
        feedOfNegativeNumbers();
        feedBehindAShortenedTape();
        feedAfterFullAndEnded();
        endOfAnEmptyTape();
        endAtTheSize();
        endBehindTheSize();
        endBelowZero();
        endAtZero();
        endOfAFullTape();
        endedBytesDoNotComeBack();
    }

    private static Desk withTape(int size) {
        Desk d = new Desk();
        for (int k = 0; k < 9; k++) d.room.feed(0x62626262, 0x62626262, 0x62626262, 0x62626262, 0x62626262);
        d.room.end(size);
        return d;
    }

    private static void feedToJust180() {
        Desk d = new Desk();
        for (int k = 1; k <= 9; k++) due("feed " + k, d.room.feed(0, 0, 0, 0, 0), 20 * k);
        due("180 bytes", d.room.count(7), 180);
        due("a tenth feed", d.room.feed(0, 0, 0, 0, 0), -1);
        due("180 bytes still", d.room.count(7), 180);
    }

    private static void feedFromEachSize() {
        for (int size = 155; size <= 180; size++) {
            Desk d = withTape(size);
            boolean fits = size + 20 <= 180;
            due("feed behind " + size, d.room.feed(1, 2, 3, 4, 5), fits ? size + 20 : -1);
            due("the tape then", d.room.count(7), fits ? size + 20 : size);
        }
    }

    private static void refusedFeedLeavesTheBytes() {
        Desk d = withTape(161);
        due("refused", d.room.feed(0x61616161, 0x61616161, 0x61616161, 0x61616161, 0x61616161), -1);
        d.room.end(10);
        due("the first bytes", d.room.word(), 0);
        due("they are b", d.tell("bbbbbbbbbb"), -1);
    }

    /** All twenty bytes of one feed are seen as the letters of a grid, which is right only in this order. */
    private static void feedPutsTheHighestFirst() {
        Desk d = new Desk();
        String[] rows = {"abcdefghi", "jklmnopqr", "st"};
        for (int c = 0; c < 3; c++) {
            d.clue(c, rows[c].length(), "x x");
            d.room.light(c, 2 * c, 0, false);
            d.room.solution(c, d.w(rows[c]));
        }
        due("twenty", d.room.feed(0x61626364, 0x65666768, 0x696a6b6c, 0x6d6e6f70, 0x71727374), 20);
        due("sent", d.room.send(), 0);
        due("in this order", d.room.right(0, 0), 1);
    }

    private static void feedOfNegativeNumbers() {
        Desk d = new Desk();
        d.room.feed(0xE1000000, 0, 0, 0, 0);
        d.room.end(1);
        due("a byte of 225 is no letter a", d.room.word(), -1);
        d.room.feed(0x61E20000, 0, 0, 0, 0);
        d.room.end(2);
        due("a byte of 226 is no letter b", d.room.word(), -1);
        due("the least number", d.room.feed(LEAST, LEAST, LEAST, LEAST, LEAST), 20);
        due("minus one", d.room.feed(-1, -1, -1, -1, -1), 40);
    }

    private static void feedBehindAShortenedTape() {
        Desk d = new Desk();
        d.room.feed(0x61626364, 0, 0, 0, 0);
        d.room.end(2);
        due("behind two", d.room.feed(0x797A0000, 0, 0, 0, 0), 22);
        d.room.end(4);
        due("a word of both", d.room.word(), 0);
        due("abyz", d.tell("abyz"), -1);
    }

    private static void feedAfterFullAndEnded() {
        Desk d = withTape(180);
        due("full", d.room.feed(0, 0, 0, 0, 0), -1);
        d.room.end(160);
        due("to its full size again", d.room.feed(0, 0, 0, 0, 0), 180);
        d.room.word();
        due("from an empty one", d.room.feed(0, 0, 0, 0, 0), 20);
    }

    private static void endOfAnEmptyTape() {
        Desk d = new Desk();
        due("end(0)", d.room.end(0), true);
        due("end(1)", d.room.end(1), false);
        due("end(-1)", d.room.end(-1), false);
        due("empty still", d.room.count(7), 0);
    }

    private static void endAtTheSize() {
        Desk d = withTape(20);
        due("end(20) of 20", d.room.end(20), true);
        due("20 still", d.room.count(7), 20);
    }

    private static void endBehindTheSize() {
        Desk d = withTape(20);
        due("end(21) of 20", d.room.end(21), false);
        due("end(180) of 20", d.room.end(180), false);
        due("end(greatest) of 20", d.room.end(GREATEST), false);
        due("20 still", d.room.count(7), 20);
    }

    private static void endBelowZero() {
        Desk d = withTape(20);
        due("end(-1)", d.room.end(-1), false);
        due("end(least)", d.room.end(LEAST), false);
        due("20 still", d.room.count(7), 20);
    }

    private static void endAtZero() {
        Desk d = withTape(20);
        due("end(0) of 20", d.room.end(0), true);
        due("none", d.room.count(7), 0);
        due("no word", d.room.word(), -1);
    }

    private static void endOfAFullTape() {
        Desk d = withTape(180);
        due("end(181)", d.room.end(181), false);
        due("end(180)", d.room.end(180), true);
        due("end(179)", d.room.end(179), true);
        due("179", d.room.count(7), 179);
        due("end(180) then", d.room.end(180), false);
    }

    private static void endedBytesDoNotComeBack() {
        Desk d = withTape(20);
        d.room.end(1);
        due("end(2) of one", d.room.end(2), false);
        due("a word of one letter", d.room.word(), 0);
        due("b", d.tell("b"), -1);
    }

    // ---- Promise 4: next; 'TODAY is day 0 at first, 999 the last one.'

    private static void days() {
        nextZero();
        nextBelowZero();
        nextToTheLastDay();
        nextBehindTheLastDay();
        nextAThousand();
        nextThatWouldWrapAround();
    }

    private static Desk on(int day) {
        Desk d = new Desk();
        d.room.next(day);
        return d;
    }

    private static void nextZero() {
        due("next(0) on day 0", new Desk().room.next(0), 0);
        due("next(0) on day 7", on(7).room.next(0), 7);
        due("next(0) on the last day", on(999).room.next(0), 999);
    }

    private static void nextBelowZero() {
        Desk d = on(7);
        due("next(-1)", d.room.next(-1), -1);
        due("next(-7)", d.room.next(-7), -1);
        due("day 7", d.room.count(0), 7);
    }

    private static void nextToTheLastDay() {
        due("next(999)", new Desk().room.next(999), 999);
        due("next(1) on 998", on(998).room.next(1), 999);
        due("next(998) on 1", on(1).room.next(998), 999);
    }

    private static void nextBehindTheLastDay() {
        due("next(999) on 1", on(1).room.next(999), -1);
        Desk d = on(999);
        due("next(1) on 999", d.room.next(1), -1);
        due("day 999", d.room.count(0), 999);
        Desk e = on(500);
        due("next(500) on 500", e.room.next(500), -1);
        due("day 500", e.room.count(0), 500);
        due("next(499) on 500", e.room.next(499), 999);
    }

    private static void nextAThousand() {
        Desk d = new Desk();
        due("next(1000)", d.room.next(1000), -1);
        due("day 0", d.room.count(0), 0);
    }

    private static void nextThatWouldWrapAround() {
        Desk d = on(5);
        due("next(greatest)", d.room.next(GREATEST), -1);
        due("next(least)", d.room.next(LEAST), -1);
        due("day 5", d.room.count(0), 5);
    }

    // ---- 'AS OF a day t counts what is KNOWN on t or ahead (below 0: nothing).'

    private static void asOf() {
        for (int day : new int[] {0, 1, 500, 999}) {
            wordAsOf(day);
            meaningAsOf(day);
            signAsOf(day);
            clueAsOf(day);
            clueToldAnewAsOf(day);
            solutionAsOf(day);
            gridAsOf(day);
        }
        nothingBelowZero();
    }

    /** Asks below 0, on the day ahead, on the day itself, behind it and on the greatest one. */
    private static void dueByDays(String what, int day, Function<Integer, Integer> ask, int nothing, int ahead, int then) {
        due(what + " of day " + day + " as of the least number", ask.apply(LEAST), nothing);
        due(what + " of day " + day + " the day ahead", ask.apply(day - 1), day == 0 ? nothing : ahead);
        due(what + " of day " + day + " that day", ask.apply(day), then);
        due(what + " of day " + day + " a day later", ask.apply(day + 1), then);
        due(what + " of day " + day + " on the last day", ask.apply(999), then);
        due(what + " of day " + day + " as of the greatest number", ask.apply(GREATEST), then);
    }

    private static void wordAsOf(int day) {
        Desk d = new Desk();
        d.clue(0, 2, "x y");
        d.room.next(day);
        int ab = d.tell("ab");
        dueByDays("a word", day, t -> d.room.readings(0, ab, t), -1, -1, 0);
    }

    private static void meaningAsOf(int day) {
        Desk d = new Desk();
        int ab = d.w("ab");
        d.clue(0, 2, "x ab");
        d.room.next(day);
        d.means("x", "ab");
        dueByDays("a meaning", day, t -> d.room.readings(0, ab, t), -1, 0, 1);
        dueByDays("what it makes possible", day, t -> d.room.possible(0, t), -1, 0, 1);
    }

    private static void signAsOf(int day) {
        Desk d = new Desk();
        d.means("x", "ab");
        int ab = d.w("ab");
        d.clue(0, 2, "x s ba");
        d.room.next(day);
        d.sign("s", Desk.SHUFFLE);
        dueByDays("a sign", day, t -> d.room.readings(0, ab, t), -1, 0, 1);
        dueByDays("what it makes possible", day, t -> d.room.possible(0, t), -1, 0, 1);
    }

    private static void clueAsOf(int day) {
        Desk d = new Desk();
        d.means("x", "ab");
        int ab = d.w("ab");
        d.room.next(day);
        d.clue(0, 2, "x ab");
        dueByDays("readings of a clue", day, t -> d.room.readings(0, ab, t), -1, -1, 1);
        dueByDays("best of a clue", day, t -> d.room.best(0, ab, t), -1, -1, 3);
        dueByDays("possible of a clue", day, t -> d.room.possible(0, t), -1, -1, 1);
        dueByDays("possibleAt of a clue", day, t -> d.room.possibleAt(0, 0, t), -1, -1, ab);
    }

    private static void clueToldAnewAsOf(int day) {
        Desk d = new Desk();
        d.means("x", "ab");
        int ab = d.w("ab");
        d.clue(0, 2, "x x");
        d.room.next(day);
        d.clue(0, 2, "x ab");
        dueByDays("a clue told anew", day, t -> d.room.readings(0, ab, t), -1, 3, 1);
    }

    private static void solutionAsOf(int day) {
        Desk d = new Desk();
        d.clue(0, 2, "x y");
        d.w("ab");
        d.room.light(0, 0, 0, false);
        d.room.next(day);
        d.room.solution(0, d.w("ab"));
        Function<Integer, Integer> kind = t -> d.room.unfair(t) == 2 ? d.room.told(0, 0) : -5;
        dueByDays("a solution", day, kind, 1, 1, 2);
    }

    private static void gridAsOf(int day) {
        Desk d = Desk.small();
        d.room.next(day);
        due("sent", d.send("ababba"), 0);
        dueByDays("a grid sent", day, t -> d.room.right(0, t), 0, 0, 1);
        dueByDays("the winner", day, t -> d.room.winner(t), -1, -1, 0);
    }

    private static void nothingBelowZero() {
        Desk d = Desk.small();
        d.room.solution(0, 0);
        d.send("ababba");
        for (int t : new int[] {-1, -2, -1000, LEAST}) {
            due("readings as of " + t, d.room.readings(0, 0, t), -1);
            due("best as of " + t, d.room.best(0, 0, t), -1);
            due("possible as of " + t, d.room.possible(0, t), -1);
            due("possibleAt as of " + t, d.room.possibleAt(0, 0, t), -1);
            due("left as of " + t, d.room.left(0, t), 0);
            due("nextLight as of " + t, d.room.nextLight(t), -1);
            due("solve as of " + t, d.room.solve(t), 0);
            due("fillings as of " + t, d.room.fillings(t), 0);
            due("unfair as of " + t, d.unfair(t), "1@0 1@1 1@2");
            due("right as of " + t, d.room.right(0, t), 0);
            due("winner as of " + t, d.room.winner(t), -1);
        }
    }

    // ---- Promise 5: word; 'WORDS 0 .. 119: 1 to 10 small letters, each once.'

    private static void words() {
        wordOfNoLetter();
        wordOfOneLetter();
        wordOfTenLetters();
        wordOfElevenLetters();
        wordOfAFullTape();
        wordOfEachByte();
        wordWithAWrongByteAtEachPlace();
        wordThatIsThere();
        wordThatStartsAnother();
        theLastWord();
        tapeIsEmptyBehindWord();
    }

    private static void wordOfNoLetter() {
        Desk d = new Desk();
        due("an empty tape", d.room.word(), -1);
        due("no word", d.room.count(1), 0);
    }

    private static void wordOfOneLetter() {
        Desk d = new Desk();
        due("one letter", d.tell("a"), 0);
        due("one word", d.room.count(1), 1);
    }

    private static void wordOfTenLetters() {
        due("ten letters", new Desk().tell("abcdefghij"), 0);
        due("ten like letters", new Desk().tell("zzzzzzzzzz"), 0);
    }

    private static void wordOfElevenLetters() {
        Desk d = new Desk();
        due("eleven letters", d.tell("abcdefghijk"), -1);
        due("no word", d.room.count(1), 0);
        due("the next one has number 0", d.tell("abcdefghij"), 0);
    }

    private static void wordOfAFullTape() {
        Desk d = withTape(180);
        due("180 letters", d.room.word(), -1);
        due("empty then", d.room.count(7), 0);
        due("none", d.room.count(1), 0);
    }

    private static void wordOfEachByte() {
        for (int b = 0; b < 256; b++) {
            due("a word of byte " + b, new Desk().tell("" + (char) b), b >= 97 && b <= 122 ? 0 : -1);
        }
    }

    private static void wordWithAWrongByteAtEachPlace() {
        for (int k = 0; k < 10; k++) {
            StringBuilder s = new StringBuilder("abcdefghij");
            s.setCharAt(k, '{');
            due("a wrong byte at " + k, new Desk().tell(s.toString()), -1);
        }
    }

    private static void wordThatIsThere() {
        Desk d = new Desk();
        d.tell("ab");
        d.tell("ba");
        due("ab again", d.tell("ab"), -1);
        due("ba again", d.tell("ba"), -1);
        due("on another day", d.room.next(1) + " " + d.tell("ab"), "1 -1");
        due("two words", d.room.count(1), 2);
        due("the third", d.tell("aa"), 2);
    }

    private static void wordThatStartsAnother() {
        Desk d = new Desk();
        due("abc", d.tell("abc"), 0);
        due("ab", d.tell("ab"), 1);
        due("abcd", d.tell("abcd"), 2);
        due("bc", d.tell("bc"), 3);
    }

    private static String pair(int k) {
        return "" + (char) ('a' + k / 20) + (char) ('a' + k % 20);
    }

    private static void theLastWord() {
        Desk d = new Desk();
        for (int k = 0; k < 119; k++) d.tell(pair(k));
        due("119 words", d.room.count(1), 119);
        due("the 120th", d.tell("zz"), 119);
        due("the 121st", d.tell("z"), -1);
        due("its tape is empty", d.room.count(7), 0);
        due("120 words", d.room.count(1), 120);
        due("word 119 is one", d.room.means(119, 0), true);
        due("word 120 is none", d.room.means(0, 120), false);
        due("word 119 is a sign", d.room.sign(119, 9), true);
        due("word 120 is none", d.room.sign(120, 9), false);
        d.put("" + (char) 119 + (char) 0);
        due("word 119 in a clue", d.room.clue(0, 2), 2);
        d.put("" + (char) 120 + (char) 0);
        due("word 120 in a clue", d.room.clue(0, 2), -1);
        due("its meaning is read", d.room.readings(0, 0, 0), 1);
    }

    private static void tapeIsEmptyBehindWord() {
        Desk d = new Desk();
        d.tell("a");
        due("behind a word", d.room.count(7), 0);
        due("no word of nothing", d.room.word(), -1);
        d.tell("a");
        due("behind one that is there", d.room.count(7), 0);
        d.tell("A");
        due("behind a wrong one", d.room.count(7), 0);
    }

    // ---- Promise 6: means

    private static void meanings() {
        meaningOfNoWord();
        meaningOfItself();
        meaningToldAgain();
        meaningTheOtherWay();
        theLastMeaning();
        refusedMeaningsDoNotCount();
    }

    private static Desk letters(int many) {
        Desk d = new Desk();
        for (int k = 0; k < many; k++) d.w("" + (char) ('a' + k));
        return d;
    }

    private static void meaningOfNoWord() {
        Desk d = letters(2);
        for (int w : new int[] {-1, 2, 120, LEAST, GREATEST}) {
            due("means(" + w + ", 0)", d.room.means(w, 0), false);
            due("means(0, " + w + ")", d.room.means(0, w), false);
            due("means(" + w + ", " + w + ")", d.room.means(w, w), false);
        }
        due("none", d.room.count(2), 0);
        due("the first and the last word", d.room.means(0, 1), true);
    }

    private static void meaningOfItself() {
        Desk d = letters(2);
        due("0 itself", d.room.means(0, 0), false);
        due("1 itself", d.room.means(1, 1), false);
        due("none", d.room.count(2), 0);
    }

    private static void meaningToldAgain() {
        Desk d = letters(3);
        due("told", d.room.means(0, 1), true);
        due("again", d.room.means(0, 1), false);
        d.room.means(0, 2);
        due("again, behind another", d.room.means(0, 1), false);
        d.room.next(1);
        due("again, a day later", d.room.means(0, 1), false);
        due("two", d.room.count(2), 2);
    }

    private static void meaningTheOtherWay() {
        Desk d = letters(2);
        d.room.means(0, 1);
        due("the other way", d.room.means(1, 0), true);
        due("two", d.room.count(2), 2);
    }

    private static void theLastMeaning() {
        Desk d = letters(17);
        for (int k = 0; k < 239; k++) d.room.means(k / 15, k % 15 < k / 15 ? k % 15 : k % 15 + 1);
        due("239", d.room.count(2), 239);
        due("the 240th", d.room.means(16, 0), true);
        due("the 241st", d.room.means(16, 1), false);
        due("240", d.room.count(2), 240);
        due("told again when full", d.room.means(16, 0), false);
        d.put("" + (char) 16 + (char) 0);
        d.room.clue(0, 1);
        due("the 240th is read", d.room.readings(0, 0, 0), 1);
        due("the 241st is not", d.room.readings(0, 1, 0), 0);
    }

    private static void refusedMeaningsDoNotCount() {
        Desk d = letters(17);
        for (int k = 0; k < 30; k++) d.room.means(3, 3);
        for (int k = 0; k < 30; k++) d.room.means(0, 17);
        for (int k = 0; k < 240; k++) d.room.means(k / 15, k % 15 < k / 15 ? k % 15 : k % 15 + 1);
        due("240 for all that", d.room.count(2), 240);
    }

    // ---- Promise 7: sign

    private static void signs() {
        signOfEachPlay();
        signOfNoPlay();
        signOfNoWord();
        signToldAgain();
        theLastSign();
        refusedSignsDoNotCount();
    }

    private static void signOfEachPlay() {
        Desk d = letters(1);
        for (int play = 0; play < 10; play++) due("play " + play, d.room.sign(0, play), true);
        due("ten", d.room.count(3), 10);
    }

    private static void signOfNoPlay() {
        Desk d = letters(2);
        for (int play : new int[] {-1, 10, -10, LEAST, GREATEST}) due("play " + play, d.room.sign(0, play), false);
        due("none", d.room.count(3), 0);
        due("play 9 of word 0", d.room.sign(0, 9), true);
        due("play 0 of word 1", d.room.sign(1, 0), true);
    }

    private static void signOfNoWord() {
        Desk d = letters(2);
        for (int w : new int[] {-1, 2, 120, LEAST, GREATEST}) due("word " + w, d.room.sign(w, 0), false);
        due("none", d.room.count(3), 0);
        due("the last word", d.room.sign(1, 0), true);
    }

    private static void signToldAgain() {
        Desk d = letters(2);
        due("told", d.room.sign(0, 4), true);
        due("again", d.room.sign(0, 4), false);
        d.room.next(1);
        due("again, a day later", d.room.sign(0, 4), false);
        due("another play", d.room.sign(0, 5), true);
        due("another word", d.room.sign(1, 4), true);
        due("three", d.room.count(3), 3);
    }

    private static void theLastSign() {
        Desk d = letters(13);
        for (int k = 0; k < 119; k++) d.room.sign(k / 10, k % 10);
        due("119", d.room.count(3), 119);
        due("the 120th", d.room.sign(12, 4), true);
        due("the 121st", d.room.sign(12, 9), false);
        due("120", d.room.count(3), 120);
        due("told again when full", d.room.sign(0, 0), false);
        d.means("a", "b");
        d.put("" + (char) 0 + (char) 12 + (char) 1);
        d.room.clue(0, 1);
        due("the 120th is read, the 121st is not", d.read(0, "b"), "1 4 mA=tB(lC)");
    }

    private static void refusedSignsDoNotCount() {
        Desk d = letters(13);
        for (int k = 0; k < 30; k++) d.room.sign(0, 10);
        for (int k = 0; k < 30; k++) d.room.sign(13, 0);
        for (int k = 0; k < 120; k++) d.room.sign(k / 10, k % 10);
        due("120 for all that", d.room.count(3), 120);
    }

    // ---- Promise 8: clue; 'CLUES 0 .. 15: a row of 2 to 8 WORDS and a LENGTH 1 to 10'

    private static void clues() {
        clueNumbers();
        clueOfTooFewWords();
        clueOfTwoAndOfEightWords();
        clueOfTooManyWords();
        clueWithNoSuchWord();
        clueLengths();
        clueOfAnotherLength();
        refusedClueFixesNoLength();
        refusedClueLeavesTheClue();
        theLastTelling();
        refusedTellingsDoNotCount();
        clueToldAnewOnOneDay();
        tapeIsEmptyBehindClue();
    }

    private static void clueNumbers() {
        Desk d = letters(2);
        for (int c : new int[] {-1, 16, LEAST, GREATEST}) due("clue " + c, d.clue(c, 1, "a b"), -1);
        due("no clue", d.room.count(4), 0);
        for (int c = 0; c < 16; c++) due("clue " + c, d.clue(c, 1, "a b"), 2);
        due("sixteen", d.room.count(4), 16);
    }

    private static void clueOfTooFewWords() {
        Desk d = letters(2);
        due("no word", d.room.clue(0, 1), -1);
        due("one word", d.clue(0, 1, "a"), -1);
        due("no clue", d.room.count(4), 0);
    }

    private static void clueOfTwoAndOfEightWords() {
        Desk d = letters(8);
        due("two", d.clue(0, 1, "a b"), 2);
        due("eight", d.clue(1, 1, "a b c d e f g h"), 8);
        due("one eight times", d.clue(2, 1, "a a a a a a a a"), 8);
    }

    private static void clueOfTooManyWords() {
        Desk d = letters(9);
        due("nine", d.clue(0, 1, "a b c d e f g h i"), -1);
        for (int k = 0; k < 9; k++) d.room.feed(0, 0, 0, 0, 0);
        due("180", d.room.clue(0, 1), -1);
        due("no clue", d.room.count(4), 0);
    }

    private static void clueWithNoSuchWord() {
        for (int b : new int[] {2, 119, 120, 127, 128, 255}) {
            Desk d = letters(2);
            d.put("" + (char) b + (char) 0);
            due("word " + b + " first", d.room.clue(0, 1), -1);
            d.put("" + (char) 0 + (char) b);
            due("word " + b + " last", d.room.clue(0, 1), -1);
            due("no clue", d.room.count(4), 0);
        }
        Desk d = letters(2);
        d.put("" + (char) 1 + (char) 1);
        due("the last word", d.room.clue(0, 1), 2);
    }

    private static void clueLengths() {
        Desk d = letters(2);
        for (int length : new int[] {0, 11, -1, LEAST, GREATEST}) due("length " + length, d.clue(0, length, "a b"), -1);
        due("no clue", d.room.count(4), 0);
        for (int length = 1; length <= 10; length++) due("length " + length, d.clue(length, length, "a b"), 2);
    }

    private static void clueOfAnotherLength() {
        Desk d = letters(2);
        d.clue(0, 5, "a b");
        due("length 4", d.clue(0, 4, "a b"), -1);
        due("length 6", d.clue(0, 6, "a b"), -1);
        due("length 5", d.clue(0, 5, "b a"), 2);
        d.room.next(1);
        due("length 4 a day later", d.clue(0, 4, "a b"), -1);
    }

    private static void refusedClueFixesNoLength() {
        Desk d = letters(2);
        due("one word", d.clue(0, 5, "a"), -1);
        due("another length then", d.clue(0, 4, "a b"), 2);
    }

    private static void refusedClueLeavesTheClue() {
        Desk d = new Desk();
        d.means("x", "ab");
        d.clue(0, 2, "x ab");
        d.clue(0, 3, "x x");
        d.clue(0, 2, "x");
        d.clue(0, 0, "x x");
        due("the clue stays", d.read(0, "ab"), "1 3 mA=lB");
        due("one clue", d.room.count(4), 1);
    }

    private static void theLastTelling() {
        Desk d = new Desk();
        d.means("x", "ab");
        for (int k = 0; k < 59; k++) due("telling " + k, d.clue(0, 2, "x x"), 2);
        due("by the 59th", d.read(0, "ab"), "3 2 mA=mB");
        due("the 60th", d.clue(0, 2, "x ab"), 2);
        due("by the 60th", d.read(0, "ab"), "1 3 mA=lB");
        due("the 61st", d.clue(0, 2, "x x"), -1);
        due("the 61st of another clue", d.clue(1, 2, "x x"), -1);
        due("its tape is empty", d.room.count(7), 0);
        due("by the 60th still", d.read(0, "ab"), "1 3 mA=lB");
        due("one clue", d.room.count(4), 1);
    }

    private static void refusedTellingsDoNotCount() {
        Desk d = letters(2);
        for (int k = 0; k < 60; k++) d.clue(16, 1, "a b");
        for (int k = 0; k < 60; k++) due("telling " + k, d.clue(k % 16, 1, "a b"), 2);
        due("the 61st", d.clue(0, 1, "a b"), -1);
    }

    private static void clueToldAnewOnOneDay() {
        Desk d = new Desk();
        d.means("x", "ab");
        d.clue(0, 2, "x x");
        d.clue(0, 2, "x ab");
        due("the last one of the day", d.room.readings(0, d.w("ab"), 0), 1);
        d.clue(0, 2, "x x x");
        due("a longer one", d.room.readings(0, d.w("ab"), 0), 0);
        d.clue(0, 2, "x x");
        due("a shorter one", d.room.readings(0, d.w("ab"), 0), 3);
    }

    private static void tapeIsEmptyBehindClue() {
        Desk d = letters(2);
        d.clue(0, 1, "a b");
        due("behind a clue", d.room.count(7), 0);
        d.clue(16, 1, "a b");
        due("behind a refused one", d.room.count(7), 0);
    }

    // ---- Promise 9: light; 'as many CELLS as its LENGTH, within the grid; no CELL of two ... both across'

    private static void lights() {
        lightOfNoClue();
        lightOfAClueThatHasOne();
        lightFromNoCell();
        lightsOfEachLengthAtTheEdge();
        lightsOverOneAnother();
        lightsThatCross();
        refusedLightLeavesTheGrid();
        sixteenLights();
        lightOfAClueToldLater();
    }

    private static Desk withClue(int length) {
        Desk d = letters(2);
        for (int c = 0; c < 4; c++) d.clue(c, length, "a b");
        return d;
    }

    private static void lightOfNoClue() {
        Desk d = withClue(1);
        for (int c : new int[] {-1, 4, 15, 16, LEAST, GREATEST}) due("light of " + c, d.room.light(c, 0, 0, false), false);
        due("no light", d.room.count(5), 0);
        due("cell of none", d.room.cell(0, 0), -1);
    }

    private static void lightOfAClueThatHasOne() {
        Desk d = withClue(1);
        due("a light", d.room.light(0, 0, 0, false), true);
        due("the same", d.room.light(0, 0, 0, false), false);
        due("another", d.room.light(0, 5, 5, true), false);
        due("one light", d.room.count(5), 1);
        due("none there", d.room.cell(5, 5), -1);
    }

    private static void lightFromNoCell() {
        Desk d = withClue(1);
        for (int k : new int[] {-1, 9, LEAST, GREATEST}) {
            for (int c = 0; c < 2; c++) {
                due("row " + k, d.room.light(0, k, 0, c == 0), false);
                due("column " + k, d.room.light(0, 0, k, c == 0), false);
                due("both " + k, d.room.light(0, k, k, c == 0), false);
            }
        }
        due("no light", d.room.count(5), 0);
        due("the last cell", d.room.light(0, 8, 8, false), true);
        due("the last cell down", d.room.light(1, 8, 8, true), true);
        due("the first cell", d.room.light(2, 0, 0, false), true);
        due("the first cell down", d.room.light(3, 0, 0, true), true);
    }

    private static void lightsOfEachLengthAtTheEdge() {
        for (int length = 1; length <= 9; length++) {
            Desk d = withClue(length);
            int last = 9 - length;
            due(length + " across over the edge", d.room.light(0, 8, last + 1, false), false);
            due(length + " down over the edge", d.room.light(0, last + 1, 8, true), false);
            due("no light", d.room.count(5), 0);
            due(length + " across to the edge", d.room.light(0, 8, last, false), true);
            due(length + " down to the edge", d.room.light(1, last, 8, true), true);
        }
        Desk d = withClue(10);
        for (int k = 0; k < 9; k++) {
            due("ten across from " + k, d.room.light(0, 0, k, false), false);
            due("ten down from " + k, d.room.light(0, k, 0, true), false);
        }
    }

    private static void lightsOverOneAnother() {
        for (int turned = 0; turned < 2; turned++) {
            boolean down = turned == 1;
            Desk d = withClue(3);
            due("one", lightAt(d, 0, 3, down), true);
            for (int k = 1; k <= 5; k++) due("over it from " + k, lightAt(d, 1, k, down), false);
            due("right ahead of it", lightAt(d, 1, 0, down), true);
            due("right behind it", lightAt(d, 2, 6, down), true);
            due("three lights", d.room.count(5), 3);
        }
    }

    private static boolean lightAt(Desk d, int c, int k, boolean down) {
        return d.room.light(c, down ? k : 4, down ? 4 : k, down);
    }

    private static void lightsThatCross() {
        Desk d = withClue(3);
        due("across", d.room.light(0, 4, 4, false), true);
        due("down from its first cell", d.room.light(1, 4, 4, true), true);
        due("down to its last cell", d.room.light(2, 2, 6, true), true);
        due("across the first one down", d.room.light(3, 6, 4, false), true);
    }

    private static void refusedLightLeavesTheGrid() {
        Desk d = withClue(3);
        d.room.light(0, 4, 6, false);
        due("refused by its last cell", d.room.light(1, 4, 4, false), false);
        due("its first cell is of none", d.room.cell(4, 4), -1);
        due("no letter there", d.room.enter(4, 5, 1), false);
        due("refused by the edge", d.room.light(1, 0, 7, false), false);
        due("no cell of it", d.room.cell(0, 7), -1);
        due("no light 1", d.room.left(1, 0), -1);
        due("one light", d.room.count(5), 1);
        due("elsewhere", d.room.light(1, 4, 3, false), true);
    }

    private static void sixteenLights() {
        Desk d = letters(2);
        for (int c = 0; c < 16; c++) {
            d.clue(c, 9, "a b");
            due("light " + c, d.room.light(c, c < 9 ? c : 0, c < 9 ? 0 : c - 9, c >= 9), true);
        }
        due("sixteen", d.room.count(5), 16);
    }

    private static void lightOfAClueToldLater() {
        Desk d = letters(2);
        d.room.next(9);
        d.clue(0, 1, "a b");
        due("a light of a later day", d.room.light(0, 0, 0, false), true);
        due("is there for all days", d.room.left(0, 3), 0);
        due("and is unfair then", d.unfair(3), "1@0 4@0");
    }

    // ---- Promise 10: solution

    private static void solutions() {
        solutionOfNoLight();
        solutionOfNoWord();
        solutionOfAnotherLength();
        theLastSolution();
        refusedSolutionsDoNotCount();
        theLastSolutionKnownCounts();
    }

    private static Desk withLight() {
        Desk d = new Desk();
        for (String s : new String[] {"ab", "ba", "a", "abc"}) d.w(s);
        d.clue(0, 2, "ab ba");
        d.clue(1, 2, "ab ba");
        d.room.light(0, 0, 0, false);
        return d;
    }

    private static void solutionOfNoLight() {
        Desk d = withLight();
        for (int c : new int[] {-1, 1, 2, 15, 16, LEAST, GREATEST}) due("light " + c, d.room.solution(c, 0), false);
        due("light 0", d.room.solution(0, 0), true);
    }

    private static void solutionOfNoWord() {
        Desk d = withLight();
        for (int w : new int[] {-1, 4, 119, 120, LEAST, GREATEST}) due("word " + w, d.room.solution(0, w), false);
        due("none", d.unfair(0), "1@0 4@0");
    }

    private static void solutionOfAnotherLength() {
        Desk d = withLight();
        due("one letter", d.room.solution(0, d.w("a")), false);
        due("three letters", d.room.solution(0, d.w("abc")), false);
        due("none", d.unfair(0), "1@0 4@0");
        due("two letters", d.room.solution(0, d.w("ba")), true);
        due("the solution", d.unfair(0), "2@0 4@0");
    }

    private static void theLastSolution() {
        Desk d = withLight();
        d.means("x", "ab");
        d.clue(0, 2, "x x");
        for (int k = 0; k < 59; k++) due("solution " + k, d.room.solution(0, 1), true);
        due("by the 59th", d.unfair(0), "2@0 3@0 4@0");
        due("the 60th", d.room.solution(0, 0), true);
        due("by the 60th", d.unfair(0), "4@0");
        due("the 61st", d.room.solution(0, 1), false);
        d.room.light(1, 5, 5, false);
        due("the 61st, of another light", d.room.solution(1, 1), false);
        due("by the 60th still", d.unfair(0), "4@0 1@1 4@1");
    }

    private static void refusedSolutionsDoNotCount() {
        Desk d = withLight();
        for (int k = 0; k < 60; k++) d.room.solution(1, 0);
        for (int k = 0; k < 60; k++) d.room.solution(0, 2);
        for (int k = 0; k < 60; k++) due("solution " + k, d.room.solution(0, 0), true);
        due("the 61st", d.room.solution(0, 0), false);
    }

    private static void theLastSolutionKnownCounts() {
        Desk d = withLight();
        d.means("x", "ab");
        d.clue(0, 2, "x x");
        d.room.solution(0, 1);
        d.room.solution(0, 0);
        d.room.next(5);
        d.room.solution(0, 1);
        due("of one day the last", d.unfair(4), "4@0");
        due("of a later day", d.unfair(5), "2@0 3@0 4@0");
    }
}
