/**
 * Each boundary case of the grid, by a test of its own: letters entered, what is left, next, solved,
 * fillings, what is unfair, grids sent and counts (promises 16 to 28, and the terms that they rest on).
 */
public final class GridBoundsTest {
    private static final int LEAST = Integer.MIN_VALUE;
    private static final int GREATEST = Integer.MAX_VALUE;

    public static void main(String[] args) {
        entered();
        left();
        next();
        solve();
        fillings();
        tries();
        filled();
        unfair();
        told();
        send();
        right();
        winner();
        counts();
        Desk.close();
    }

    private static void due(String what, Object got, Object want) {
        Desk.due(what, got, want);
    }

    /** Tells a clue that just these words are possible for; they are of one length. */
    private static void clueOf(Desk d, int c, String by, String... words) {
        for (String s : words) d.means(by, s);
        d.clue(c, words[0].length(), by + " " + by);
    }

    // ---- Promises 16 and 17: enter, cell

    private static void entered() {
        enterInNoCell();
        enterInACellOfNoLight();
        enterNoLetter();
        enterEachLetter();
        enterAtTheCorners();
        enterAgain();
        enteredStaysWhenALightComes();
        cellOfNone();
    }

    private static void enterInNoCell() {
        Desk d = Desk.small();
        for (int k : new int[] {-1, 9, LEAST, GREATEST}) {
            due("row " + k, d.room.enter(k, 0, 1), false);
            due("column " + k, d.room.enter(0, k, 1), false);
            due("both " + k, d.room.enter(k, k, 1), false);
        }
        due("row 1, column -9 is not row 0", d.room.enter(1, -9, 1), false);
        due("row 0, column 9 is not row 1", d.room.enter(0, 9, 1), false);
        due("nothing is entered", d.room.cell(0, 0) + d.room.cell(0, 1) + d.room.cell(1, 0) + d.room.cell(1, 1), 0);
    }

    private static void enterInACellOfNoLight() {
        Desk d = Desk.small();
        for (int row = 0; row < 9; row++) {
            for (int column = 0; column < 9; column++) {
                boolean lit = row < 2 && column < 2;
                due("enter " + row + " " + column, d.room.enter(row, column, 5), lit);
                due("cell " + row + " " + column, d.room.cell(row, column), lit ? 5 : -1);
            }
        }
    }

    private static void enterNoLetter() {
        Desk d = Desk.small();
        d.room.enter(0, 0, 7);
        for (int letter : new int[] {-1, 27, 97, LEAST, GREATEST}) due("letter " + letter, d.room.enter(0, 0, letter), false);
        due("what was there", d.room.cell(0, 0), 7);
    }

    private static void enterEachLetter() {
        Desk d = Desk.small();
        for (int letter = 0; letter <= 26; letter++) {
            due("letter " + letter, d.room.enter(0, 0, letter), true);
            due("it stands", d.room.cell(0, 0), letter);
        }
    }

    private static void enterAtTheCorners() {
        Desk d = new Desk();
        String nine = "abcdefghi";
        clueOf(d, 0, "x", nine);
        clueOf(d, 1, "x", nine);
        d.room.light(0, 0, 0, false);
        d.room.light(1, 8, 0, false);
        int k = 1;
        for (int row = 0; row <= 8; row += 8) {
            for (int column = 0; column <= 8; column += 8) {
                due("enter " + row + " " + column, d.room.enter(row, column, k), true);
                due("cell " + row + " " + column, d.room.cell(row, column), k);
                k++;
            }
        }
    }

    private static void enterAgain() {
        Desk d = Desk.small();
        d.room.enter(0, 0, 1);
        due("another letter", d.room.enter(0, 0, 2), true);
        due("it stands", d.room.cell(0, 0), 2);
        due("none", d.room.enter(0, 0, 0), true);
        due("none stands", d.room.cell(0, 0), 0);
        due("none again", d.room.enter(0, 0, 0), true);
    }

    private static void enteredStaysWhenALightComes() {
        Desk d = Desk.small();
        d.room.enter(0, 1, 2);
        d.clue(3, 2, "x y");
        d.room.light(3, 0, 1, true);
        due("the letter stays", d.room.cell(0, 1), 2);
        due("and counts for the new light", d.room.left(3, 0), 1);
    }

    private static void cellOfNone() {
        Desk d = Desk.small();
        for (int k : new int[] {-1, 9, LEAST, GREATEST}) {
            due("row " + k, d.room.cell(k, 0), -1);
            due("column " + k, d.room.cell(0, k), -1);
        }
        due("a cell of no light", d.room.cell(8, 8), -1);
        due("a cell of a light", d.room.cell(1, 1), 0);
    }

    // ---- Promise 18: left; 'the most for which this is so of all LIGHTS together'

    private static void left() {
        leftOfNoLight();
        leftOfNothingPossible();
        leftOfAClueThatIsNotKnown();
        leftAllAndNone();
        leftByTheFarEndOfAChain();
        leftOfLightsThatDoNotCross();
        leftInARing();
        leftOfOneLetter();
        leftBySixteenLights();
        leftByAStairOfSixteenLights();
        leftByWhatGoesAtBothSides();
    }

    private static void leftOfNoLight() {
        Desk d = Desk.small();
        d.clue(3, 2, "x y");
        for (int c : new int[] {-1, 3, 4, 15, 16, LEAST, GREATEST}) due("left of " + c, d.room.left(c, 0), -1);
        due("left of 0", d.room.left(0, 0), 4);
    }

    private static void leftOfNothingPossible() {
        Desk d = Desk.small();
        d.clue(2, 2, "x z");
        due("of itself", d.room.left(2, 0), 0);
        due("of one that crosses it", d.room.left(1, 0), 0);
        due("of one that crosses that", d.room.left(0, 0), 0);
    }

    private static void leftOfAClueThatIsNotKnown() {
        Desk d = Desk.small();
        d.room.next(5);
        d.clue(3, 2, "x y");
        d.room.light(3, 8, 0, false);
        d.clue(4, 2, "x y");
        d.room.light(4, 0, 1, true);
        due("as of its day", d.room.left(3, 5), 4);
        due("as of the day ahead", d.room.left(3, 4), 0);
        due("of those that cross one that is not known", d.room.left(0, 4), 0);
        due("of those that cross one that is", d.room.left(0, 5), 4);
    }

    private static void leftAllAndNone() {
        Desk d = Desk.small();
        due("nothing entered", d.room.left(0, 0), 4);
        d.room.enter(0, 0, 1);
        due("one letter", d.room.left(0, 0), 1);
        d.room.enter(0, 1, 2);
        due("all letters", d.room.left(0, 0), 1);
        d.room.enter(0, 1, 3);
        due("a wrong letter", d.room.left(0, 0), 0);
        d.room.enter(0, 1, 0);
        due("without it again", d.room.left(0, 0), 1);
    }

    private static void leftByTheFarEndOfAChain() {
        Desk d = Desk.small();
        d.room.enter(1, 1, 26);
        for (int c = 0; c < 3; c++) due("left of " + c, d.room.left(c, 0), 0);
        d.room.enter(1, 1, 1);
        for (int c = 0; c < 3; c++) due("left of " + c + " then", d.room.left(c, 0), 1);
    }

    private static void leftOfLightsThatDoNotCross() {
        Desk d = Desk.small();
        d.clue(3, 2, "x y");
        d.room.light(3, 0, 2, false);
        d.room.enter(0, 0, 26);
        due("none of its neighbour", d.room.left(0, 0), 0);
        due("all of one beside it", d.room.left(3, 0), 4);
    }

    /** Two lights across and two down in a square: each pair agrees in two ways, all four never do. */
    private static Desk ring() {
        Desk d = new Desk();
        clueOf(d, 0, "x", "aa", "bb");
        clueOf(d, 1, "x", "aa", "bb");
        clueOf(d, 2, "x", "aa", "bb");
        clueOf(d, 3, "y", "ab", "ba");
        d.room.light(0, 0, 0, false);
        d.room.light(1, 0, 0, true);
        d.room.light(2, 0, 1, true);
        d.room.light(3, 1, 0, false);
        return d;
    }

    private static void leftInARing() {
        Desk d = ring();
        for (int c = 0; c < 4; c++) due("left of " + c, d.room.left(c, 0), 2);
        due("but no way to fill", d.room.fillings(0), 0);
        d.room.enter(0, 0, 1);
        for (int c = 0; c < 4; c++) due("left of " + c + " with one letter", d.room.left(c, 0), 0);
    }

    private static void leftOfOneLetter() {
        Desk d = new Desk();
        clueOf(d, 0, "x", "a", "b");
        clueOf(d, 1, "y", "b", "c");
        d.room.light(0, 8, 8, false);
        d.room.light(1, 8, 8, true);
        due("one cell of both", d.room.left(0, 0) + " " + d.room.left(1, 0), "1 1");
        due("the only way", d.room.fillings(0), 1);
    }

    private static void leftBySixteenLights() {
        Desk d = new Desk();
        clueOf(d, 15, "x", "ab", "cd");
        for (int c = 0; c < 15; c++) d.clue(c, 2, "x x");
        for (int c = 0; c < 16; c++) d.room.light(c, c / 2, c % 2 == 0 ? 0 : 4, false);
        for (int c = 0; c < 16; c++) due("left of " + c, d.room.left(c, 0), 2);
    }

    /** Each light crosses the next one, so that what is entered at one end is known at the other. */
    private static Desk stair() {
        Desk d = new Desk();
        clueOf(d, 0, "x", "aa", "bb");
        for (int c = 1; c < 16; c++) d.clue(c, 2, "x x");
        for (int c = 0; c < 16; c++) d.room.light(c, c / 2, (c + 1) / 2, c % 2 == 1);
        return d;
    }

    private static void leftByAStairOfSixteenLights() {
        Desk d = stair();
        due("nothing entered", d.room.left(0, 0) + " " + d.room.left(15, 0), "2 2");
        d.room.enter(8, 8, 2);
        due("the far end entered", d.room.left(0, 0) + " " + d.room.left(15, 0), "1 1");
        due("all but the one that is full by then", d.room.solve(0), 15);
        due("the other end", d.room.cell(0, 0), 2);
        Desk e = stair();
        e.room.enter(0, 0, 1);
        due("the near end entered", e.room.left(0, 0) + " " + e.room.left(15, 0), "1 1");
        due("two ways to fill it", e.room.fillings(0), 2);
    }

    /** Something goes from every light at first, and what goes then at one side goes on at the other. */
    private static void leftByWhatGoesAtBothSides() {
        Desk d = new Desk();
        clueOf(d, 0, "x", "a", "b", "z");
        clueOf(d, 1, "y", "ac", "bd", "yc");
        clueOf(d, 2, "v", "c", "w");
        d.room.light(0, 0, 0, true);
        d.room.light(1, 0, 0, false);
        d.room.light(2, 0, 1, true);
        due("one of each", d.room.left(0, 0) + " " + d.room.left(1, 0) + " " + d.room.left(2, 0), "1 1 1");
    }

    // ---- Promise 19: nextLight; 'just one LEFT, and CELLS that are not ENTERED'

    private static void next() {
        nextOfNoLights();
        nextWithTwoLeft();
        nextWithNoneLeft();
        nextWithOneLeft();
        nextWithAllEntered();
        nextWithOneCellToEnter();
        nextIsTheLeastNumber();
        nextIsTheLastNumber();
    }

    private static Desk oneLight(int c, String... words) {
        Desk d = new Desk();
        clueOf(d, c, "x", words);
        d.room.light(c, 4, 4, false);
        return d;
    }

    private static void nextOfNoLights() {
        Desk d = new Desk();
        clueOf(d, 0, "x", "ab");
        due("a clue without a light", d.room.nextLight(0), -1);
        due("and nothing to solve", d.room.solve(0), 0);
    }

    private static void nextWithTwoLeft() {
        due("two left", oneLight(0, "ab", "cd").room.nextLight(0), -1);
    }

    private static void nextWithNoneLeft() {
        Desk d = oneLight(0, "ab");
        d.room.enter(4, 4, 26);
        due("none left", d.room.nextLight(0), -1);
    }

    private static void nextWithOneLeft() {
        Desk d = oneLight(0, "ab", "cd");
        d.room.enter(4, 5, 4);
        due("one left", d.room.nextLight(0), 0);
        due("one left of one", oneLight(0, "ab").room.nextLight(0), 0);
    }

    private static void nextWithAllEntered() {
        Desk d = oneLight(0, "ab");
        d.room.enter(4, 4, 1);
        d.room.enter(4, 5, 2);
        due("one left, all entered", d.room.left(0, 0) + " " + d.room.nextLight(0), "1 -1");
        due("nothing to solve", d.room.solve(0), 0);
    }

    private static void nextWithOneCellToEnter() {
        for (int k = 0; k < 3; k++) {
            Desk d = oneLight(0, "abc");
            for (int n = 0; n < 3; n++) {
                if (n != k) d.room.enter(4, 4 + n, 1 + n);
            }
            due("all but cell " + k, d.room.nextLight(0), 0);
            due("one to enter", d.room.solve(0), 1);
            due("it is entered", d.room.cell(4, 4 + k), 1 + k);
        }
    }

    private static void nextIsTheLeastNumber() {
        Desk d = new Desk();
        clueOf(d, 7, "x", "ab");
        clueOf(d, 3, "y", "cd");
        clueOf(d, 1, "z", "ab", "cd");
        d.room.light(7, 0, 0, false);
        d.room.light(3, 2, 0, false);
        d.room.light(1, 4, 0, false);
        due("3 ahead of 7", d.room.nextLight(0), 3);
        d.room.enter(2, 0, 3);
        d.room.enter(2, 1, 4);
        due("7 behind it", d.room.nextLight(0), 7);
    }

    private static void nextIsTheLastNumber() {
        due("light 15", oneLight(15, "ab").room.nextLight(0), 15);
        due("solved", oneLight(15, "ab").room.solve(0), 1);
    }

    // ---- Promise 20: solve

    private static void solve() {
        solveNothing();
        solveAChain();
        solveSixteen();
        solveLeavesTheRest();
        solveIsAsOfADay();
        solveStaysWithinTheLight();
    }

    private static void solveNothing() {
        due("no lights", new Desk().room.solve(0), 0);
        due("four left of each", Desk.small().room.solve(0), 0);
        due("below 0", Desk.small().room.solve(-1), 0);
    }

    private static void solveAChain() {
        Desk d = Desk.small();
        d.room.enter(0, 1, 2);
        due("all three", d.room.solve(0), 3);
        due("entered", d.room.cell(0, 0) + " " + d.room.cell(1, 0) + " " + d.room.cell(1, 1), "1 2 1");
        due("no more", d.room.solve(0), 0);
        d.room.enter(1, 1, 0);
        due("one cell again", d.room.solve(0), 1);
    }

    private static void solveSixteen() {
        Desk d = new Desk();
        clueOf(d, 0, "x", "ab");
        for (int c = 1; c < 16; c++) d.clue(c, 2, "x x");
        for (int c = 0; c < 16; c++) d.room.light(c, c / 2, c % 2 == 0 ? 0 : 4, false);
        due("sixteen", d.room.solve(0), 16);
        due("the last one", d.room.cell(7, 4) + " " + d.room.cell(7, 5), "1 2");
        due("none then", d.room.solve(0), 0);
    }

    private static void solveLeavesTheRest() {
        Desk d = new Desk();
        clueOf(d, 0, "x", "ab");
        clueOf(d, 1, "y", "ab", "cd");
        d.room.light(0, 0, 0, false);
        d.room.light(1, 2, 0, false);
        d.room.enter(2, 0, 26);
        due("one", d.room.solve(0), 1);
        due("a wrong letter stays", d.room.cell(2, 0), 26);
        due("and the gap beside it", d.room.cell(2, 1), 0);
    }

    private static void solveIsAsOfADay() {
        Desk d = new Desk();
        clueOf(d, 0, "x", "ab");
        d.room.light(0, 0, 0, false);
        d.room.next(3);
        d.means("x", "cd");
        due("two left today", d.room.solve(3), 0);
        due("one left then", d.room.solve(2), 1);
        due("it stands today", d.room.cell(0, 1), 2);
    }

    private static void solveStaysWithinTheLight() {
        for (int turned = 0; turned < 2; turned++) {
            boolean down = turned == 1;
            Desk d = new Desk();
            clueOf(d, 0, "x", "ab", "cd");
            clueOf(d, 1, "y", "ab");
            clueOf(d, 2, "x", "ab", "cd");
            for (int c = 0; c < 3; c++) d.room.light(c, down ? 2 * c : 0, down ? 0 : 2 * c, down);
            due("the middle one", d.room.solve(0), 1);
            due("nothing ahead of it", down ? d.room.cell(1, 0) : d.room.cell(0, 1), 0);
            due("nothing behind it", down ? d.room.cell(4, 0) : d.room.cell(0, 4), 0);
        }
    }

    // ---- Promise 21: fillings; 'it ends with the 1000th way'

    private static void fillings() {
        fillingsWithoutLights();
        fillingsOfOneLight();
        fillingsOfALightWithNothingPossible();
        fillingsWhateverIsEntered();
        fillingsOfANumber(27, 37, 1, 999);
        fillingsOfANumber(25, 40, 1, 1000);
        fillingsOfANumber(7, 11, 13, 1000);
        fillingsOfANumber(40, 40, 40, 1000);
        fillingsByLightsAndWords();
    }

    private static void fillingsWithoutLights() {
        Desk d = new Desk();
        due("of nothing", d.room.fillings(0), 0);
        clueOf(d, 0, "x", "ab");
        due("of a clue without a light", d.room.fillings(0), 0);
        due("filled of it", d.room.filled(0), -1);
    }

    private static void fillingsOfOneLight() {
        Desk d = oneLight(15, "ab", "cd");
        due("two", d.room.fillings(0), 2);
        due("the first", d.room.filled(15), d.w("ab"));
    }

    private static void fillingsOfALightWithNothingPossible() {
        Desk d = Desk.small();
        d.clue(15, 1, "x y");
        d.room.light(15, 8, 8, false);
        due("the last light has none", d.room.fillings(0), 0);
        Desk e = new Desk();
        e.clue(0, 1, "x y");
        e.room.light(0, 8, 8, false);
        clueOf(e, 1, "x", "ab");
        e.room.light(1, 0, 0, false);
        due("the first light has none", e.room.fillings(0), 0);
    }

    private static void fillingsWhateverIsEntered() {
        Desk d = Desk.small();
        for (int k = 0; k < 4; k++) d.room.enter(k / 2, k % 2, 26);
        due("none left", d.room.left(0, 0), 0);
        due("four for all that", d.room.fillings(0), 4);
        due("the letters stay", d.room.cell(0, 0), 26);
    }

    private static String pair(int k) {
        return "" + (char) ('a' + k / 8) + (char) ('a' + k % 8);
    }

    /** Lights that do not cross, each of which the first so many of one list are possible for. */
    private static Desk lightsOf(int... many) {
        Desk d = new Desk();
        int most = 0;
        for (int m : many) most = Math.max(most, m);
        for (int k = 0; k < most; k++) d.w(pair(k));
        for (int c = 0; c < many.length; c++) {
            String by = "xyz".substring(c, c + 1);
            for (int k = 0; k < many[c]; k++) d.means(by, pair(k));
            d.clue(c, 2, by + " " + by);
            d.room.light(c, 2 * c, 0, false);
        }
        return d;
    }

    private static void fillingsOfANumber(int first, int second, int third, int want) {
        Desk d = lightsOf(first, second, third);
        due(first + " times " + second + " times " + third, d.room.fillings(0), want);
        due("the first way", d.room.filled(0) + " " + d.room.filled(1) + " " + d.room.filled(2), "0 0 0");
    }

    private static void fillingsByLightsAndWords() {
        Desk d = new Desk();
        for (String s : new String[] {"ca", "cb", "ab"}) d.w(s);
        clueOf(d, 9, "x", "ab", "cb", "ca");
        clueOf(d, 2, "y", "ab", "ca");
        d.room.light(9, 0, 0, false);
        d.room.light(2, 0, 0, true);
        due("ways", d.room.fillings(0), 3);
        due("light 2 has its least word, then light 9", d.room.filled(2) + " " + d.room.filled(9), "0 0");
    }

    // ---- 'is given up with more than 20000 tries'

    private static void tries() {
        triesOf20000();
        triesOf20001();
        thousandthWayByTry20000();
        thousandthWayByTry20001();
        triesEndWithTheThousandthWay();
    }

    /** A last light that nothing is possible for, so that all is tried for the others and no way is found. */
    private static Desk deadEnd(Desk d) {
        d.clue(9, 1, "x y");
        d.room.light(9, 8, 8, false);
        return d;
    }

    private static void triesOf20000() {
        Desk d = deadEnd(lightsOf(20, 27, 36));
        due("20 + 20 * 27 + 20 * 27 * 36 tries and no way", d.room.fillings(0), 0);
    }

    private static void triesOf20001() {
        Desk d = deadEnd(lightsOf(59, 13, 25));
        due("59 + 59 * 13 + 59 * 13 * 25 tries and no way", d.room.fillings(0), -2);
        due("filled ahead of any", d.room.filled(0), -1);
    }

    /**
     * Light 1 has 5 words that nothing of light 2 agrees with and 20 that agree with 25 of its 39; for
     * each such pair the last 2 of light 3's 38 agree: 25 + 25 * 39 + 500 * 38 tries, the last one of
     * which is the 1000th way.
     */
    private static Desk thousandByTheLast() {
        Desk d = new Desk();
        String[] first = many(5, "b", "d", 20, "a", "d");
        String[] second = many(14, "c", "x", 25, "a", "y");
        String[] third = many(18, "e", "x", 18, "e", "y", 2, "d", "y");
        clueOf(d, 1, "x", first);
        clueOf(d, 2, "y", second);
        clueOf(d, 3, "z", third);
        d.room.light(1, 0, 0, false);
        d.room.light(2, 0, 0, true);
        d.room.light(3, 0, 2, true);
        return d;
    }

    /** For each number and two texts: so many words, with another letter each between the two. */
    private static String[] many(Object... parts) {
        java.util.List<String> all = new java.util.ArrayList<>();
        for (int k = 0; k < parts.length; k += 3) {
            for (int n = 0; n < (Integer) parts[k]; n++) all.add("" + parts[k + 1] + (char) ('a' + n) + parts[k + 2]);
        }
        return all.toArray(new String[0]);
    }

    private static void thousandthWayByTry20000() {
        Desk d = thousandByTheLast();
        due("possible", d.room.possible(1, 0) + " " + d.room.possible(2, 0) + " " + d.room.possible(3, 0), "25 39 38");
        due("the 1000th way by the 20000th try", d.room.fillings(0), 1000);
        due("the first way", d.room.filled(1) + " " + d.room.filled(2) + " " + d.room.filled(3),
                d.w("aad") + " " + d.w("aay") + " " + d.w("day"));
    }

    private static void thousandthWayByTry20001() {
        Desk d = thousandByTheLast();
        d.means("w", "aad");
        d.clue(0, 3, "w w");
        d.room.light(0, 8, 0, false);
        due("one word more to try", d.room.fillings(0), -2);
        due("filled ahead of any", d.room.filled(1), -1);
    }

    private static void triesEndWithTheThousandthWay() {
        Desk d = thousandByTheLast();
        d.room.next(1);
        d.means("z", "dcy");
        due("three agree then, so it ends long ahead", d.room.fillings(1), 1000);
        due("as of the day ahead", d.room.fillings(0), 1000);
    }

    // ---- Promise 22: filled

    private static void filled() {
        filledAheadOfAny();
        filledOfNoLight();
        filledStaysWhenNoneIsTold();
        filledStaysWhenGivenUp();
        filledOfALaterLight();
        filledStaysUntilTheNextOne();
    }

    private static void filledAheadOfAny() {
        Desk d = Desk.small();
        for (int c = -1; c <= 16; c++) due("filled of " + c, d.room.filled(c), -1);
        d.room.fillings(-1);
        for (int c = 0; c < 3; c++) due("filled of " + c + " behind one that told none", d.room.filled(c), -1);
    }

    private static void filledOfNoLight() {
        Desk d = Desk.small();
        d.clue(3, 2, "x y");
        d.room.fillings(0);
        for (int c : new int[] {-1, 3, 4, 15, 16, LEAST, GREATEST}) due("filled of " + c, d.room.filled(c), -1);
        due("filled of 2", d.room.filled(2), 1);
    }

    private static void filledStaysWhenNoneIsTold() {
        Desk d = Desk.small();
        d.room.fillings(0);
        due("none", d.room.fillings(-1), 0);
        due("filled", d.room.filled(0) + " " + d.room.filled(1) + " " + d.room.filled(2), "0 0 1");
    }

    private static void filledStaysWhenGivenUp() {
        Desk d = thousandByTheLast();
        d.room.next(1);
        d.means("w", "aad");
        d.clue(0, 3, "w w");
        due("told", d.room.fillings(0), 1000);
        d.room.light(0, 8, 0, false);
        due("given up, with ways on its way", d.room.fillings(1), -2);
        due("filled", d.room.filled(1), d.w("aad"));
        due("a light of the one given up", d.room.filled(0), -1);
    }

    private static void filledOfALaterLight() {
        Desk d = Desk.small();
        d.room.fillings(0);
        d.clue(3, 2, "x y");
        d.room.light(3, 8, 0, false);
        due("no such light then", d.room.filled(3), -1);
        d.room.fillings(0);
        due("with it", d.room.filled(3), 0);
    }

    private static void filledStaysUntilTheNextOne() {
        Desk d = oneLight(0, "ab", "cd");
        d.room.fillings(0);
        d.means("y", "cd");
        d.clue(0, 2, "y y");
        due("as it was", d.room.filled(0), d.w("ab"));
        due("one now", d.room.fillings(0), 1);
        due("as it is", d.room.filled(0), d.w("cd"));
    }

    // ---- Promise 23: unfair

    private static void unfair() {
        unfairOfNoLights();
        kind1And2();
        kind3WithoutCrossedCells();
        kind3WithCrossedCells();
        kind3OfTheSolutionAlone();
        kind4OfEachLength();
        kind5();
        kind5WithoutASolution();
        unfairOfSixteenLights();
    }

    private static void unfairOfNoLights() {
        Desk d = new Desk();
        clueOf(d, 0, "x", "ab");
        due("no lights", d.room.unfair(0), 0);
        due("none told", d.toldThrows(0, 0), true);
    }

    private static void kind1And2() {
        Desk d = oneLight(0, "ab");
        d.w("cd");
        due("no solution", d.unfair(0), "1@0 4@0");
        d.room.solution(0, d.w("ab"));
        due("a solution with a reading", d.unfair(0), "4@0");
        Desk e = oneLight(0, "ab");
        e.room.solution(0, e.tell("cd"));
        due("a solution without a reading", e.unfair(0), "2@0 3@0 4@0");
        e.room.next(1);
        e.means("x", "cd");
        due("with a reading a day later", e.unfair(1), "3@0 4@0");
        due("without one still", e.unfair(0), "2@0 3@0 4@0");
    }

    private static void kind3WithoutCrossedCells() {
        Desk d = oneLight(0, "ab", "cd");
        due("without a solution", d.unfair(0), "1@0 4@0");
        d.room.solution(0, d.w("ab"));
        due("any other possible word", d.unfair(0), "3@0 4@0");
    }

    private static void kind3OfTheSolutionAlone() {
        Desk d = oneLight(0, "ab");
        d.room.solution(0, d.w("ab"));
        due("the solution itself is no other word", d.unfair(0), "4@0");
    }

    private static void kind3WithCrossedCells() {
        Desk d = new Desk();
        clueOf(d, 0, "x", "abc", "abd", "bbc");
        clueOf(d, 1, "y", "a");
        clueOf(d, 2, "z", "c");
        d.room.light(0, 0, 0, false);
        d.room.light(1, 0, 0, true);
        d.room.solution(0, d.w("abc"));
        d.room.solution(1, d.w("a"));
        due("one cell crossed: abd is alike", d.unfair(0), "3@0 4@0");
        d.room.light(2, 0, 2, true);
        d.room.solution(2, d.w("c"));
        due("two cells crossed: none is alike in both", d.unfair(0), "");
    }

    /** Lights of each length across, with so many of their cells crossed by lights of one letter. */
    private static void kind4OfEachLength() {
        for (int length = 1; length <= 9; length++) {
            Desk d = new Desk();
            d.clue(0, length, "x y");
            d.room.light(0, 0, 0, false);
            for (int crossed = 0; crossed <= length; crossed++) {
                if (crossed > 0) {
                    d.clue(crossed, 1, "x y");
                    d.room.light(crossed, 0, length - crossed, true);
                }
                d.room.unfair(0);
                due(crossed + " of " + length + " are fewer than half", d.room.told(1, 0) == 4, crossed * 2 < length);
            }
        }
    }

    private static void kind5() {
        Desk d = new Desk();
        clueOf(d, 0, "x", "ab");
        clueOf(d, 1, "y", "ac", "bc");
        d.room.light(0, 0, 0, false);
        d.room.light(1, 0, 0, true);
        d.room.solution(0, d.w("ab"));
        d.room.solution(1, d.w("ac"));
        due("alike", d.unfair(0), "");
        d.room.next(1);
        d.room.solution(1, d.w("bc"));
        due("not alike, both tell", d.unfair(1), "5@0 5@1");
        due("alike the day ahead", d.unfair(0), "");
    }

    private static void kind5WithoutASolution() {
        Desk d = new Desk();
        clueOf(d, 0, "x", "ab");
        clueOf(d, 1, "y", "bc");
        d.room.light(0, 0, 0, false);
        d.room.light(1, 0, 0, true);
        due("neither", d.unfair(0), "1@0 1@1");
        d.room.solution(0, d.w("ab"));
        due("the first alone", d.unfair(0), "1@1");
        d.room.next(1);
        d.room.solution(1, d.w("bc"));
        due("the other later", d.unfair(0), "1@1");
        due("both", d.unfair(1), "5@0 5@1");
    }

    /** Eight lights across and eight down, all with another word that is possible, and all at odds. */
    private static void unfairOfSixteenLights() {
        Desk d = new Desk();
        clueOf(d, 0, "x", "abcdefghi");
        for (int c = 1; c < 16; c++) d.clue(c, 9, "x x");
        for (int c = 0; c < 16; c++) d.room.light(c, c < 8 ? 0 : c - 8, c < 8 ? c : 0, c < 8);
        int w = d.tell("qrstuvwxy");
        for (int c = 0; c < 16; c++) d.room.solution(c, c % 2 == 0 ? w : d.w("abcdefghi"));
        StringBuilder want = new StringBuilder();
        for (int c = 0; c < 16; c++) want.append(c == 0 ? "" : " ").append(c % 2 == 0 ? "2@" + c + " 5@" + c : "5@" + c);
        due("by lights, by kinds", d.unfair(0), want.toString());
        Desk e = new Desk();
        clueOf(e, 0, "x", "ab");
        for (int c = 1; c < 16; c++) e.clue(c, 2, "x x");
        for (int c = 0; c < 16; c++) e.room.light(c, c / 2, c % 2 == 0 ? 0 : 4, false);
        int v = e.tell("cd");
        for (int c = 0; c < 16; c++) e.room.solution(c, v);
        due("three of each", e.room.unfair(0), 48);
        due("the last one", e.room.told(47, 0) + "@" + e.room.told(47, 1), "4@15");
        due("none behind it", e.toldThrows(48, 0), true);
    }

    // ---- Promise 24: told

    private static void told() {
        toldAheadOfAny();
        toldOfNone();
        toldOfAnotherWhat();
        toldIsOfTheLatest();
    }

    private static void toldAheadOfAny() {
        Desk d = Desk.small();
        for (int what = -1; what <= 2; what++) due("told(0, " + what + ")", d.toldThrows(0, what), true);
    }

    private static void toldOfNone() {
        Desk d = Desk.small();
        due("three", d.room.unfair(0), 3);
        for (int k : new int[] {-1, 3, 4, LEAST, GREATEST}) {
            due("kind of " + k, d.toldThrows(k, 0), true);
            due("light of " + k, d.toldThrows(k, 1), true);
        }
        due("the first", d.room.told(0, 0) + "@" + d.room.told(0, 1), "1@0");
        due("the last", d.room.told(2, 0) + "@" + d.room.told(2, 1), "1@2");
    }

    private static void toldOfAnotherWhat() {
        Desk d = Desk.small();
        d.room.unfair(0);
        for (int what : new int[] {-1, 2, LEAST, GREATEST}) due("what " + what, d.toldThrows(0, what), true);
    }

    private static void toldIsOfTheLatest() {
        Desk d = Desk.small();
        d.room.unfair(0);
        d.room.solution(0, 0);
        due("as it was until asked again", d.room.told(0, 0), 1);
        due("asked again", d.unfair(0), "1@1 1@2");
        due("shorter then", d.toldThrows(2, 0), true);
    }

    // ---- Promise 25: send

    private static void send() {
        sendWithoutLights();
        sendOfAnotherSize();
        sendOfAnotherByte();
        theLastGrid();
        refusedGridsDoNotCount();
        tapeIsEmptyBehindSend();
        sendForSixteenLights();
    }

    private static void sendWithoutLights() {
        Desk d = new Desk();
        due("no letters", d.room.send(), -1);
        due("a letter", d.send("a"), -1);
        clueOf(d, 0, "x", "a");
        due("a clue without a light", d.send("a"), -1);
        due("none", d.room.count(6), 0);
    }

    private static void sendOfAnotherSize() {
        Desk d = Desk.small();
        for (int size : new int[] {0, 1, 5, 7, 12, 180}) due(size + " letters", d.send("a".repeat(size)), -1);
        due("none", d.room.count(6), 0);
        due("six letters", d.send("aaaaaa"), 0);
    }

    private static void sendOfAnotherByte() {
        Desk d = Desk.small();
        for (int b : new int[] {0, 32, 65, 90, 96, 123, 127, 128, 225, 255}) {
            due("byte " + b + " first", d.send((char) b + "aaaaa"), -1);
            due("byte " + b + " last", d.send("aaaaa" + (char) b), -1);
        }
        due("none", d.room.count(6), 0);
        due("a and z", d.send("azazaz"), 0);
    }

    private static void theLastGrid() {
        Desk d = Desk.small();
        for (int g = 0; g < 29; g++) due("grid " + g, d.send("zzzzzz"), g);
        due("the 30th", d.send("ababba"), 29);
        due("the 31st", d.send("ababba"), -1);
        due("its tape is empty", d.room.count(7), 0);
        due("thirty", d.room.count(6), 30);
        due("the 30th is right", d.room.right(29, 0), 1);
        due("there is no 31st", d.room.right(30, 0), -1);
        due("the winner", d.room.winner(0), 29);
    }

    private static void refusedGridsDoNotCount() {
        Desk d = Desk.small();
        for (int g = 0; g < 30; g++) d.send("zzz");
        for (int g = 0; g < 30; g++) due("grid " + g, d.send("zzzzzz"), g);
    }

    private static void tapeIsEmptyBehindSend() {
        Desk d = Desk.small();
        d.send("ababba");
        due("behind a grid", d.room.count(7), 0);
        d.send("abab");
        due("behind one of another size", d.room.count(7), 0);
        d.send("ababb{");
        due("behind one with another byte", d.room.count(7), 0);
    }

    /** As many letters as there can be: 16 lights of nine letters, 144 in all. */
    private static void sendForSixteenLights() {
        Desk d = new Desk();
        String nine = "aaaaaaaaa";
        clueOf(d, 0, "x", nine);
        for (int c = 1; c < 16; c++) d.clue(c, 9, "x x");
        for (int c = 0; c < 16; c++) d.room.light(c, c < 9 ? c : 0, c < 9 ? 0 : c - 9, c >= 9);
        due("143 letters", d.send("a".repeat(143)), -1);
        due("145 letters", d.send("a".repeat(145)), -1);
        due("144 letters", d.send("a".repeat(144)), 0);
        due("are right", d.room.right(0, 0), 1);
        due("with another last one", d.send("a".repeat(143) + "b"), 1);
        due("are not", d.room.right(1, 0), 0);
        due("the same with another first one", d.send("b" + "a".repeat(143)), 2);
        due("are not either", d.room.right(2, 0), 0);
        due("fillings", d.room.fillings(0), 1);
    }

    // ---- Promise 26: right

    private static void right() {
        rightOfNoGrid();
        rightOfTheLettersOfNow();
        rightByCrossedCells();
        rightBySolutionOrPossible();
        rightOfAWordThatIsNotTold();
        rightByRisingNumbers();
        rightByTheirLastCells();
        rightWithAsManyWordsAsThereCanBe();
    }

    private static void rightOfNoGrid() {
        Desk d = Desk.small();
        due("none sent", d.room.right(0, 0), -1);
        d.send("ababba");
        for (int g : new int[] {-1, 1, 29, 30, LEAST, GREATEST}) due("grid " + g, d.room.right(g, 0), -1);
        due("grid -1 below 0", d.room.right(-1, -1), -1);
        due("grid 0", d.room.right(0, 0), 1);
    }

    private static void rightOfTheLettersOfNow() {
        Desk d = Desk.small();
        d.send("ababba");
        d.room.next(1);
        d.clue(3, 2, "x y");
        d.room.light(3, 8, 0, false);
        due("two letters more now", d.room.right(0, 0), 0);
        due("for all days", d.room.right(0, 1), 0);
        due("eight letters", d.send("ababbaab"), 1);
        due("right", d.room.right(1, 1), 1);
        due("as of the day ahead, when it was not sent", d.room.right(1, 0), 0);
    }

    private static void rightByCrossedCells() {
        Desk d = Desk.small();
        d.send("abbaab");
        d.send("ababab");
        d.send("ababba");
        due("the first two not alike", d.room.right(0, 0), 0);
        due("the last two not alike", d.room.right(1, 0), 0);
        due("alike", d.room.right(2, 0), 1);
    }

    private static void rightBySolutionOrPossible() {
        Desk d = oneLight(0, "ab", "cd");
        d.w("ef");
        d.w("gh");
        for (String s : new String[] {"ab", "cd", "ef", "gh"}) d.send(s);
        due("neither", d.room.right(2, 0), 0);
        d.room.next(1);
        d.room.solution(0, d.w("ef"));
        due("the solution", d.room.right(2, 1), 1);
        due("the day ahead", d.room.right(2, 0), 0);
        due("possible ones still", d.room.right(0, 1) + d.room.right(1, 1), 2);
        due("another word", d.room.right(3, 1), 0);
        d.room.next(1);
        d.room.solution(0, d.w("gh"));
        due("the last solution known", d.room.right(3, 2), 1);
        due("not the one ahead of it", d.room.right(2, 2), 0);
    }

    private static void rightOfAWordThatIsNotTold() {
        Desk d = oneLight(0, "ab");
        due("sent", d.send("zz"), 0);
        due("no word", d.room.right(0, 0), 0);
        d.room.next(1);
        d.means("x", "zz");
        due("a word later", d.room.right(0, 1), 1);
        due("not as of then", d.room.right(0, 0), 0);
    }

    private static void rightByRisingNumbers() {
        Desk d = new Desk();
        clueOf(d, 9, "x", "ab");
        clueOf(d, 2, "y", "c");
        d.room.light(9, 0, 0, false);
        d.room.light(2, 5, 0, false);
        d.send("abc");
        d.send("cab");
        due("light 9 first", d.room.right(0, 0), 0);
        due("light 2 first", d.room.right(1, 0), 1);
    }

    private static void rightByTheirLastCells() {
        Desk d = new Desk();
        clueOf(d, 0, "x", "abc", "abd", "cba");
        clueOf(d, 1, "x", "abc", "abd", "cba");
        d.room.light(0, 2, 0, false);
        d.room.light(1, 0, 2, true);
        d.send("abcabc");
        d.send("abdabc");
        d.send("cbaabc");
        due("alike", d.room.right(0, 0), 1);
        due("not alike at the last", d.room.right(1, 0), 0);
        due("alike at the first alone", d.room.right(2, 0), 0);
    }

    private static void rightWithAsManyWordsAsThereCanBe() {
        Desk d = oneLight(0, "zz");
        for (int k = 0; k < 117; k++) d.w(pair(k));
        due("the 120th word", d.tell("zy"), 119);
        d.room.solution(0, 119);
        d.send("zx");
        d.send("zy");
        d.send("zz");
        due("no word", d.room.right(0, 0), 0);
        due("the last word", d.room.right(1, 0), 1);
        due("the winner", d.room.winner(0), 1);
    }

    // ---- Promise 27: winner

    private static void winner() {
        Desk d = Desk.small();
        due("none sent", d.room.winner(0), -1);
        d.send("zzzzzz");
        due("none right", d.room.winner(0), -1);
        d.room.next(2);
        d.send("ababba");
        d.send("cdcddc");
        due("the first right one", d.room.winner(2), 1);
        due("the day ahead", d.room.winner(1), -1);
        due("below 0", d.room.winner(-1), -1);
        due("as of the greatest number", d.room.winner(GREATEST), 1);
        d.room.next(1);
        d.w("zz");
        for (int c = 0; c < 3; c++) d.room.solution(c, d.w("zz"));
        due("one of an earlier day, right by what is known later", d.room.winner(3), 0);
        due("but not as of then", d.room.winner(2), 1);
    }

    // ---- Promise 28: count

    private static void counts() {
        Desk d = Desk.small();
        for (int what : new int[] {-1, 9, 10, LEAST, GREATEST}) due("count " + what, d.room.count(what), -1);
        d.room.next(4);
        d.sign("x", 0);
        d.sign("y", 1);
        d.send("ababba");
        d.room.best(0, 0, 4);
        d.type("abcd");
        int[] want = {4, 6, 8, 2, 3, 3, 1, 4, 5};
        for (int what = 0; what < 9; what++) due("count " + what, d.room.count(what), want[what]);
        clueToldAnewIsOneClue();
    }

    private static void clueToldAnewIsOneClue() {
        Desk d = Desk.small();
        d.clue(0, 2, "x y");
        due("clues", d.room.count(4), 3);
    }
}
