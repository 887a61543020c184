/**
 * Each boundary case of how clues are read, by a test of its own: rows, pieces, readings, cost and
 * name, and promises 11 to 15.
 */
public final class ReadingBoundsTest {
    private static final int LEAST = Integer.MIN_VALUE;
    private static final int GREATEST = Integer.MAX_VALUE;
    private static final String RUN = "aaaaaaaaaa";

    public static void main(String[] args) {
        rows();
        links();
        plainPieces();
        signPlaces();
        shuffle();
        headsAndTails();
        hidden();
        turn();
        beheadAndCurtail();
        inAndAbout();
        twoFrontBack();
        numbersOfReadings();
        costsAndNames();
        bestOnes();
        readingsAndBest();
        octets();
        possibles();
        Desk.close();
    }

    private static void due(String what, Object got, Object want) {
        Desk.due(what, got, want);
    }

    /** A new room in which x means the answer, and words are signs as told: sign:play. */
    private static Desk room(String answer, String... signs) {
        Desk d = new Desk();
        d.means("x", answer);
        for (String s : signs) {
            int colon = s.indexOf(':');
            d.sign(s.substring(0, colon), s.charAt(colon + 1) - '0');
        }
        return d;
    }

    /** Ways, cost and name of one clue in a new room. */
    private static String read(String clue, String answer, String... signs) {
        return room(answer, signs).read(0, clue, answer);
    }

    // ---- 'PIECES one behind the other, that part the ROW and the letters'

    private static void rows() {
        everyWordIsInAPiece();
        everyLetterIsMade();
        lettersStandInTheOrderOfThePieces();
        sevenPiecesAndTenLetters();
        aPieceMakesOneLetterAtLeast();
    }

    private static void everyWordIsInAPiece() {
        due("a word too many, last", read("x ab c", "ab"), "0 0");
        due("a word too many, first", read("x c ab", "ab"), "0 0");
        due("a word too many, between", read("x a c b", "ab"), "0 0");
    }

    private static void everyLetterIsMade() {
        due("a letter too few, last", read("x ab", "abc"), "0 0");
        due("a letter too few, first", read("x bc", "abc"), "0 0");
        due("a letter too few, between", read("x a c", "abc"), "0 0");
        due("a letter too many", read("x abcd", "abc"), "0 0");
    }

    private static void lettersStandInTheOrderOfThePieces() {
        due("in order", read("x a b", "ab"), "1 5 mA=lBlC");
        due("not in order", read("x b a", "ab"), "0 0");
    }

    private static void sevenPiecesAndTenLetters() {
        due("seven pieces", read("x a b c d e f g", "abcdefg"), "1 15 mA=lBlClDlElFlGlH");
        due("seven pieces, back", read("a b c d e f g x", "abcdefg"), "1 15 lAlBlClDlElFlG=mH");
        due("ten letters", read("x ab cd ef gh i j", "abcdefghij"), "1 13 mA=lBlClDlElFlG");
        due("one letter", read("x a", "a"), "1 3 mA=lB");
    }

    private static void aPieceMakesOneLetterAtLeast() {
        due("one letter less one, ahead", read("x h c ab", "ab", "h:5"), "0 0");
        due("one letter less one, behind", read("x ab h c", "ab", "h:6"), "0 0");
        due("two letters less one", read("x h ca b", "ab", "h:5"), "1 6 mA=bB(lC)lD");
    }

    // ---- 'between two of them may be a WORD that is a SIGN of LINK, and makes nothing'

    private static void links() {
        linkBetweenTwoPieces();
        linkNotAheadOfTheRow();
        linkNotBehindTheRow();
        oneLinkBetweenTwoPieces();
        linkInEveryGap();
        linkOrItsLetters();
        linkIsNoPiece();
        linkWithinATurnedRow();
    }

    private static void linkBetweenTwoPieces() {
        due("a link", read("x a k b", "ab", "k:9"), "1 5 mA=lBkClD");
        due("no link", read("x a k b", "ab", "k:8"), "0 0");
    }

    private static void linkNotAheadOfTheRow() {
        due("first in a row at the back", read("k ab x", "ab", "k:9"), "0 0");
        due("first behind the link of the front", read("x k k ab", "ab", "k:9"), "0 0");
    }

    private static void linkNotBehindTheRow() {
        due("last in a row at the front", read("x ab k", "ab", "k:9"), "0 0");
        due("last ahead of the link of the back", read("ab k k x", "ab", "k:9"), "0 0");
    }

    private static void oneLinkBetweenTwoPieces() {
        due("two links", read("x a k k b", "ab", "k:9"), "0 0");
    }

    private static void linkInEveryGap() {
        due("three links", read("x k a k b k c", "abc", "k:9"), "1 7 mA=kBlCkDlEkFlG");
        due("three links, back", read("a k b k c k x", "abc", "k:9"), "1 7 lAkBlCkDlEkF=mG");
    }

    private static void linkOrItsLetters() {
        Desk d = room("aka", "k:9");
        d.means("u", "a");
        d.w("ak");
        due("its letters alone", d.read(0, "x u k a", "aka"), "1 6 mA=mBlClD");
        d.means("u", "ak");
        due("its letters, or a link", d.read(0, "x u k a", "aka"), "2 4 mA=mBkClD");
    }

    private static void linkIsNoPiece() {
        due("a link alone", read("x k", "ab", "k:9"), "0 0");
        due("a link alone, back", read("k x", "ab", "k:9"), "0 0");
        due("links alone", read("x k k", "ab", "k:9"), "0 0");
        due("its letters", read("x k", "k", "k:9"), "1 3 mA=lB");
    }

    private static void linkWithinATurnedRow() {
        due("between", read("x t b k a", "ab", "t:4", "k:9"), "1 6 mA=tB(lCkDlE)");
        due("ahead", read("x t k ba", "ab", "t:4", "k:9"), "0 0");
        due("behind", read("x ba k t", "ab", "t:4", "k:9"), "0 0");
    }

    // ---- 'LETTERS: one WORD, its own letters. MEANING: one WORD, those of a WORD that it MEANS.'

    private static void plainPieces() {
        lettersOfOneWord();
        meaningOfOneWord();
        meaningIsOneWay();
        meaningOfAMeaning();
        meaningsOfTenLettersAndOfOne();
    }

    private static void lettersOfOneWord() {
        due("its letters", read("x ab", "ab"), "1 3 mA=lB");
        due("turned", read("x ba", "ab"), "0 0");
        due("ten letters", read("x abcdefghij", "abcdefghij"), "1 3 mA=lB");
    }

    private static void meaningOfOneWord() {
        Desk d = room("abc");
        d.means("u", "ab");
        due("a meaning and letters", d.read(0, "x u c", "abc"), "1 4 mA=mBlC");
        d.means("v", RUN);
        d.means("y", RUN);
        due("ten letters", d.read(1, "v y", RUN), "3 2 mA=mB");
    }

    private static void meaningIsOneWay() {
        Desk d = room("abc");
        d.means("ab", "u");
        due("the other way", d.read(0, "x u c", "abc"), "0 0");
    }

    private static void meaningOfAMeaning() {
        Desk d = room("ab");
        d.means("u", "v");
        d.means("v", "ab");
        due("over two", d.read(0, "x u", "ab"), "0 0");
    }

    /** Each word has its own meanings, of whatever length its neighbours' are. */
    private static void meaningsOfTenLettersAndOfOne() {
        Desk d = new Desk();
        d.w("u");
        d.w("v");
        d.means("u", "abcdefghij");
        d.means("v", "a");
        due("ten letters by u", d.read(0, "u u", "abcdefghij"), "3 2 mA=mB");
        due("ten letters by v", d.read(0, "v v", "abcdefghij"), "0 0");
        due("one letter by v", d.read(1, "v v", "a"), "3 2 mA=mB");
        due("one letter by u", d.read(1, "u u", "a"), "0 0");
    }

    // ---- 'By a SIGN that is the first or the last one of its WORDS, of the others (one at least)'

    private static void signPlaces() {
        signWithoutARest();
        signOfAnotherPlay();
        signInTheMiddle();
        signAtBothEnds();
    }

    private static void signWithoutARest() {
        for (int play = 0; play < 10; play++) {
            due("a sign of " + play + " alone", read("x s", "ab", "s:" + play), "0 0");
            due("a sign of " + play + " behind a piece", read("x ab s", "ab", "s:" + play), "0 0");
        }
    }

    private static void signOfAnotherPlay() {
        String[] texts = {"s ba", "s ax bx", "s xa xb", "s xa bx", "s ba", "s xab", "s abx"};
        for (int told = 0; told < 10; told++) {
            for (int play = 0; play < 7; play++) {
                boolean works = told == play || told == 0 && play == 4 || told == 4 && play == 0;
                String got = read("y " + texts[play], "ab", "s:" + told);
                due("no reading without a meaning", got, "0 0");
                got = read("x " + texts[play], "ab", "s:" + told);
                due("sign of " + told + " in " + texts[play], got.startsWith("1 "), works);
            }
        }
    }

    private static void signInTheMiddle() {
        due("shuffle", read("x b s a", "ab", "s:0"), "0 0");
        due("heads", read("x ax s bx", "ab", "s:1"), "0 0");
        due("hidden", read("x xa s bx", "ab", "s:3"), "0 0");
        due("turn", read("x b s a", "ab", "s:4"), "0 0");
    }

    private static void signAtBothEnds() {
        due("first", read("x s ba", "ab", "s:0"), "1 2 mA=sB(C)");
        due("last", read("x ba s", "ab", "s:0"), "1 2 mA=sC(B)");
        due("both are signs", read("x ts st", "ts", "ts:4", "st:4"), "1 4 mA=tB(lC)");
        due("one word at both ends", read("x t a t", "a", "t:4"), "2 5 mA=tB(tD(lC))");
    }

    // ---- 'SHUFFLE: the letters of the REST, all, in another order than they stand there.'

    private static void shuffle() {
        shuffleOfOneLetter();
        shuffleOfLikeLetters();
        shuffleInTheSameOrder();
        shuffleOfAllLetters();
        shuffleOfTenLetters();
        shuffleOfEachPairOfLetters();
        shuffleOfManyLikeLetters();
        shuffleOfSixWords();
    }

    private static void shuffleOfOneLetter() {
        due("one letter", read("x s a", "a", "s:0"), "0 0");
    }

    private static void shuffleOfLikeLetters() {
        due("aa", read("x s aa", "aa", "s:0"), "0 0");
        due("a a", read("x s a a", "aa", "s:0"), "0 0");
    }

    private static void shuffleInTheSameOrder() {
        due("the same order", read("x s abc", "abc", "s:0"), "0 0");
        due("the same order in words", read("x s a bc", "abc", "s:0"), "0 0");
        due("the last two changed", read("x s acb", "abc", "s:0"), "1 2 mA=sB(C)");
        due("the first two changed", read("x s bac", "abc", "s:0"), "1 2 mA=sB(C)");
    }

    private static void shuffleOfAllLetters() {
        due("a letter too many", read("x s cbad", "abc", "s:0"), "0 0");
        due("a letter too few", read("x s cb", "abc", "s:0"), "0 0");
        due("another letter", read("x s cbd", "abc", "s:0"), "0 0");
    }

    private static void shuffleOfTenLetters() {
        due("ten", read("x s jihgfedcba", "abcdefghij", "s:0"), "1 2 mA=sB(C)");
        due("ten, one other", read("x s jihgfedcbk", "abcdefghij", "s:0"), "0 0");
        due("ten by two words", read("x s jihgf edcba", "abcdefghij", "s:0"), "1 2 mA=sB(CD)");
        due("twenty", read("x s jihgfedcba abcdefghij", "abcdefghij", "s:0"), "0 0");
    }

    /** A letter may stand for no other one, wherever the two are in the alphabet. */
    private static void shuffleOfEachPairOfLetters() {
        for (char a = 'a'; a <= 'z'; a++) {
            String whole = "" + a + (a == 'q' ? 'r' : 'q');
            String turned = new StringBuilder(whole).reverse().toString();
            Desk d = new Desk();
            d.means("xx", whole);
            d.sign("ss", Desk.SHUFFLE);
            due("shuffle of " + whole, d.read(0, "xx ss " + turned, whole), "1 2 mA=sB(C)");
            char next = (char) (a == 'z' ? 'a' : a + 1);
            due("no shuffle of it", d.read(0, "xx ss " + turned.charAt(0) + next, whole), "0 0");
        }
    }

    private static void shuffleOfManyLikeLetters() {
        due("nine a and a b", read("x s aaaaaaaaab", "baaaaaaaaa", "s:0"), "1 2 mA=sB(C)");
        due("eight a and two b", read("x s aaaaaaaabb", "baaaaaaaaa", "s:0"), "0 0");
        due("eight a and a c are no nine b", read("x s aaaaaaaac", "bbbbbbbbb", "s:0"), "0 0");
        due("eight n and a p are no nine o", read("x s nnnnnnnnp", "ooooooooo", "s:0"), "0 0");
        due("nine z and a y", read("x s zzzzzzzzzy", "yzzzzzzzzz", "s:0"), "1 2 mA=sB(C)");
    }

    private static void shuffleOfSixWords() {
        due("six words", read("x s f e d c b a", "abcdef", "s:0"), "1 2 mA=sB(CDEFGH)");
    }

    // ---- 'HEADS, TAILS: the first, the last letter of each WORD of the REST, in order.'

    private static void headsAndTails() {
        headsOfOneWord();
        headsOfSixWords();
        headsOfTooFewAndTooMany();
        headsOfWordsOfOneLetter();
        headsOfWordsOfTenLetters();
        headsInOrder();
    }

    private static void headsOfOneWord() {
        due("heads", read("x s axx", "a", "s:1"), "1 2 mA=fB(C)");
        due("tails", read("x s xxa", "a", "s:2"), "1 2 mA=eB(C)");
        due("heads are no tails", read("x s xxa", "a", "s:1"), "0 0");
        due("tails are no heads", read("x s axx", "a", "s:2"), "0 0");
    }

    private static void headsOfSixWords() {
        due("heads", read("x s aw bw cw dw ew fw", "abcdef", "s:1"), "1 2 mA=fB(CDEFGH)");
        due("tails, sign last", read("x wa wb wc wd we wf s", "abcdef", "s:2"), "1 2 mA=eH(BCDEFG)");
    }

    private static void headsOfTooFewAndTooMany() {
        due("heads, too few", read("x s aw bw", "abc", "s:1"), "0 0");
        due("heads, too many", read("x s aw bw cw dw", "abc", "s:1"), "0 0");
        due("tails, too few", read("x s wa wb", "abc", "s:2"), "0 0");
        due("tails, too many", read("x s wa wb wc wd", "abc", "s:2"), "0 0");
    }

    private static void headsOfWordsOfOneLetter() {
        due("heads of both, or of the first", read("x s a b", "ab", "s:1"), "2 2 mA=fB(CD)");
        due("tails of both, or of the first", read("x s a b", "ab", "s:2"), "2 2 mA=eB(CD)");
    }

    private static void headsOfWordsOfTenLetters() {
        due("heads", read("x s awwwwwwwww bwwwwwwwww", "ab", "s:1"), "1 2 mA=fB(CD)");
        due("tails", read("x s wwwwwwwwwa wwwwwwwwwb", "ab", "s:2"), "1 2 mA=eB(CD)");
    }

    private static void headsInOrder() {
        due("heads", read("x s bw aw", "ab", "s:1"), "0 0");
        due("tails", read("x s wb wa", "ab", "s:2"), "0 0");
    }

    // ---- 'HIDDEN: ... (two WORDS at least) ... (not its first letter) ... (not its last letter)'

    private static void hidden() {
        hiddenInOneWord();
        hiddenFromTheSecondLetter();
        hiddenToTheLastButOne();
        hiddenTakesOfBothEnds();
        hiddenOverWholeWords();
        hiddenOfTenLetters();
        hiddenTwiceIsOne();
        hiddenInWordsOfOneLetter();
    }

    private static void hiddenInOneWord() {
        due("one word", read("x s wabw", "ab", "s:3"), "0 0");
        due("one word, sign last", read("x wabw s", "ab", "s:3"), "0 0");
    }

    private static void hiddenFromTheSecondLetter() {
        due("from the second", read("x s wab cw", "abc", "s:3"), "1 2 mA=hB(CD)");
        due("from the first", read("x s ab cw", "abc", "s:3"), "0 0");
        due("from the last", read("x s wwwwwwwwwa bcw", "abc", "s:3"), "1 2 mA=hB(CD)");
    }

    private static void hiddenToTheLastButOne() {
        due("to the last but one", read("x s wa bcw", "abc", "s:3"), "1 2 mA=hB(CD)");
        due("to the last", read("x s wa bc", "abc", "s:3"), "0 0");
        due("to the first", read("x s wab cwwwwwwwww", "abc", "s:3"), "1 2 mA=hB(CD)");
    }

    private static void hiddenTakesOfBothEnds() {
        due("none of the last", read("x s wab ww", "ab", "s:3"), "0 0");
        due("none of the last, right behind it", read("x s wwab cw", "ab", "s:3"), "0 0");
        due("none of the first", read("x s ww abw", "ab", "s:3"), "0 0");
        due("one of each", read("x s wa bw", "ab", "s:3"), "1 2 mA=hB(CD)");
    }

    private static void hiddenOverWholeWords() {
        due("three words", read("x s wa b cw", "abc", "s:3"), "1 2 mA=hB(CDE)");
        due("six words", read("x s wa b c d e fw", "abcdef", "s:3"), "1 2 mA=hB(CDEFGH)");
        due("not all of a middle one", read("x s wa bb cw", "abc", "s:3"), "0 0");
        due("the middle one alone", read("x s ww ab ww", "ab", "s:3"), "0 0");
        due("the first two alone", read("x s wa bw ww", "ab", "s:3"), "0 0");
        due("the last two alone", read("x s ww wa bw", "ab", "s:3"), "0 0");
    }

    private static void hiddenOfTenLetters() {
        due("one, eight, one", read("x s wa bcdefghi jw", "abcdefghij", "s:3"), "1 2 mA=hB(CDE)");
        due("nine and one", read("x s wabcdefghi jw", "abcdefghij", "s:3"), "1 2 mA=hB(CD)");
        due("one and nine", read("x s wa bcdefghijw", "abcdefghij", "s:3"), "1 2 mA=hB(CD)");
    }

    private static void hiddenTwiceIsOne() {
        due("twice", read("x s waa aaw", "aa", "s:3"), "1 2 mA=hB(CD)");
        due("many times", read("x s " + RUN + " aaaaaaaaa", "aaaaaa", "s:3"), "1 2 mA=hB(CD)");
    }

    private static void hiddenInWordsOfOneLetter() {
        due("the first of one letter", read("x s a bw", "ab", "s:3"), "0 0");
        due("the last of one letter", read("x s wa b", "ab", "s:3"), "0 0");
        due("both", read("x s a b", "ab", "s:3"), "0 0");
        due("the middle one", read("x s wa b cw", "abc", "s:3"), "1 2 mA=hB(CDE)");
    }

    // ---- 'TURN: the REST as a ROW MAKES them from the last to the first.'

    private static void turn() {
        due("one letter", read("x t a", "a", "t:4"), "1 4 mA=tB(lC)");
        due("alike from both ends", read("x t aba", "aba", "t:4"), "1 4 mA=tB(lC)");
        due("ten letters", read("x t jihgfedcba", "abcdefghij", "t:4"), "1 4 mA=tB(lC)");
        due("not turned", read("x t ab", "ab", "t:4"), "0 0");
        due("a row of six", read("x t f e d c b a", "abcdef", "t:4"), "1 14 mA=tB(lClDlElFlGlH)");
        due("ten letters in a row of six", read("x t jihgf e d c b a", "abcdefghij", "t:4"), "1 14 mA=tB(lClDlElFlGlH)");
        due("twice", read("x t t ab", "ab", "t:4"), "1 5 mA=tB(tC(lD))");
        due("six times, as it stands", read("x t t t t t t ba", "ba", "t:4"), "1 9 mA=tB(tC(tD(tE(tF(tG(lH))))))");
        due("six times, turned", read("x t t t t t t ba", "ab", "t:4"), "0 0");
        due("a turned piece in a row", read("x a t cb d", "abcd", "t:4"), "1 8 mA=lBtC(lD)lE");
        due("a shuffle within", read("x t s ba", "ba", "t:4", "s:0"), "1 3 mA=tB(sC(D))");
        due("a hidden one within", read("x t s wb aw", "ab", "t:4", "s:3"), "1 3 mA=tB(hC(DE))");
    }

    // ---- 'BEHEAD, CURTAIL: the REST, one WORD, MAKES them by LETTERS or MEANING with one letter more'

    private static void beheadAndCurtail() {
        cutOfOneLetter();
        cutOfTwoLetters();
        cutOfTenLetters();
        cutToTenLetters();
        cutOfMoreThanOneLetter();
        cutOfTwoWords();
        cutOfMeanings();
        cutAtTheOtherEnd();
    }

    private static void cutOfOneLetter() {
        due("behead", read("x h a", "a", "h:5"), "0 0");
        due("curtail", read("x h a", "a", "h:6"), "0 0");
    }

    private static void cutOfTwoLetters() {
        due("behead", read("x h wa", "a", "h:5"), "1 4 mA=bB(lC)");
        due("curtail", read("x h aw", "a", "h:6"), "1 4 mA=cB(lC)");
        due("behead of like ones", read("x h aa", "a", "h:5"), "1 4 mA=bB(lC)");
    }

    private static void cutOfTenLetters() {
        due("behead", read("x h jabcdefghi", "abcdefghi", "h:5"), "1 4 mA=bB(lC)");
        due("curtail", read("x h abcdefghij", "abcdefghi", "h:6"), "1 4 mA=cB(lC)");
        Desk d = room("abcdefghi", "h:5", "h:6");
        d.means("u", "abcdefghij");
        d.means("u", "jabcdefghi");
        due("of meanings", d.read(0, "x h u", "abcdefghi"), "2 3 mA=bB(mC)");
    }

    private static void cutToTenLetters() {
        Desk d = room("abcdefghij", "h:5", "h:6");
        d.means("u", "abcdefghij");
        due("there are no eleven", d.read(0, "x h u", "abcdefghij"), "0 0");
        due("there are no eleven, by letters", d.read(0, "x h abcdefghij", "abcdefghij"), "0 0");
    }

    private static void cutOfMoreThanOneLetter() {
        due("behead by two", read("x h wwab", "ab", "h:5"), "0 0");
        due("curtail by two", read("x h abww", "ab", "h:6"), "0 0");
        due("behead by none", read("x h ab", "ab", "h:5"), "0 0");
        due("curtail by none", read("x h ab", "ab", "h:6"), "0 0");
    }

    private static void cutOfTwoWords() {
        due("behead", read("x h wa b", "ab", "h:6"), "0 0");
        due("curtail", read("x h a bw", "ab", "h:6"), "0 0");
        due("of the first, and a piece", read("x h wa b", "ab", "h:5"), "1 6 mA=bB(lC)lD");
        due("two words that are one too many", read("x h w ab", "ab", "h:5"), "0 0");
        due("not of a piece", read("x h t ba", "a", "h:6", "t:4"), "0 0");
    }

    private static void cutOfMeanings() {
        Desk d = room("ab", "h:5", "g:6");
        for (char a = 'a'; a <= 'z'; a++) d.means("u", a + "ab");
        due("26 words", d.read(0, "x h u", "ab"), "26 3 mA=bB(mC)");
        due("aab is none behind", d.read(0, "x g u", "ab"), "0 0");
        d.means("cab", "dab");
        due("letters or a meaning", d.read(0, "x h cab", "ab"), "2 3 mA=bB(mC)");
    }

    private static void cutAtTheOtherEnd() {
        due("behead", read("x h abw", "ab", "h:5"), "0 0");
        due("curtail", read("x h wab", "ab", "h:6"), "0 0");
    }

    // ---- 'IN: ... these letters are put in between two of the others' and ABOUT

    private static void inAndAbout() {
        aroundOfOneLetter();
        aroundOfTwoLetters();
        notAheadNorBehind();
        withinOfEightLetters();
        aroundOfNineLetters();
        eachPlaceBetween();
        signOfInAtAnEnd();
        aroundIsOneWord();
        aroundIsNoPiece();
        withinIsARow();
        withinAtSeveralPlaces();
        lettersOrMeaningAround();
        behindAnotherPiece();
        withinATurnedRow();
    }

    private static void aroundOfOneLetter() {
        due("in", read("x a i b", "ab", "i:7"), "0 0");
        due("about", read("x b i a", "ab", "i:8"), "0 0");
        due("in, like letters", read("x a i a", "aa", "i:7"), "0 0");
    }

    private static void aroundOfTwoLetters() {
        due("in", read("x b i ac", "abc", "i:7"), "1 6 mA=iC(lB)1lD");
        due("about", read("x ac i b", "abc", "i:8"), "1 6 mA=aC(lD)1lB");
        due("about is no in", read("x b i ac", "abc", "i:8"), "0 0");
        due("in is no about", read("x ac i b", "abc", "i:7"), "0 0");
    }

    private static void notAheadNorBehind() {
        due("in, ahead", read("x a i bc", "abc", "i:7"), "0 0");
        due("in, behind", read("x c i ab", "abc", "i:7"), "0 0");
        due("about, ahead", read("x bc i a", "abc", "i:8"), "0 0");
        due("about, behind", read("x ab i c", "abc", "i:8"), "0 0");
    }

    private static void withinOfEightLetters() {
        due("in", read("x bcdefghi i aj", "abcdefghij", "i:7"), "1 6 mA=iC(lB)1lD");
        due("about", read("x aj i bcdefghi", "abcdefghij", "i:8"), "1 6 mA=aC(lD)1lB");
    }

    private static void aroundOfNineLetters() {
        due("in", read("x b i acdefghij", "abcdefghij", "i:7"), "1 6 mA=iC(lB)1lD");
        Desk d = room("abcdefghij", "i:8");
        d.means("u", "abcdefghj");
        due("about, by a meaning", d.read(0, "x u i i", "abcdefghij"), "1 5 mA=aC(lD)8mB");
    }

    private static void eachPlaceBetween() {
        for (int p = 1; p <= 8; p++) {
            StringBuilder s = new StringBuilder("abcdefghij");
            char within = s.charAt(p);
            s.deleteCharAt(p);
            due("between at " + p, read("x " + within + " zz " + s, "abcdefghij", "zz:7"), "1 6 mA=iC(lB)" + p + "lD");
            due("about at " + p, read("x " + s + " zz " + within, "abcdefghij", "zz:8"), "1 6 mA=aC(lD)" + p + "lB");
        }
        due("at the first", read("x a zz bcdefghij", "abcdefghij", "zz:7"), "0 0");
        due("at the last", read("x j zz abcdefghi", "abcdefghij", "zz:7"), "0 0");
    }

    private static void signOfInAtAnEnd() {
        due("in, first", read("x i b ac", "abc", "i:7"), "0 0");
        due("in, last", read("x b ac i", "abc", "i:7"), "0 0");
        due("about, first", read("x i ac b", "abc", "i:8"), "0 0");
        due("about, last", read("x ac b i", "abc", "i:8"), "0 0");
        due("in, with none ahead", read("x i ac", "abc", "i:7"), "0 0");
        due("about, with none behind", read("x ac i", "abc", "i:8"), "0 0");
    }

    private static void aroundIsOneWord() {
        due("in, two behind", read("x b i a c", "abc", "i:7"), "0 0");
        due("about, two ahead", read("x a c i b", "abc", "i:8"), "0 0");
        due("in, a piece behind", read("x b i ac d", "abcd", "i:7"), "1 8 mA=iC(lB)1lDlE");
        due("about, a piece ahead", read("x a bd i c", "abcd", "i:8"), "1 8 mA=lBaD(lE)1lC");
    }

    private static void aroundIsNoPiece() {
        due("in a turned one", read("x b i t ca", "abc", "i:7", "t:4"), "0 0");
        due("about a turned one", read("x ca t i b", "abc", "i:8", "t:4"), "0 0");
    }

    private static void withinIsARow() {
        due("in, five pieces", read("x b c d e i af", "abcdef", "i:7"), "1 12 mA=iF(lBlClDlE)1lG");
        due("about, five pieces", read("x ag i b c d e f", "abcdefg", "i:8"), "1 14 mA=aC(lDlElFlGlH)1lB");
        due("a link within", read("x b k c i ad", "abcd", "i:7", "k:9"), "1 8 mA=iE(lBkClD)1lF");
        due("a link at its end", read("x b k i ac", "abc", "i:7", "k:9"), "0 0");
        due("one in another", read("x c i bd i ae", "abcde", "i:7"), "1 9 mA=iE(iC(lB)1lD)1lF");
        due("one about another", read("x ae i bd i c", "abcde", "i:8"), "1 9 mA=aC(aE(lF)1lD)1lB");
    }

    private static void withinAtSeveralPlaces() {
        due("nine a about one", read("x a i aaaaaaaaa", RUN, "i:7"), "8 6 mA=iC(lB)1lD");
        due("two a about eight", read("x aaaaaaaa i aa", RUN, "i:7"), "1 6 mA=iC(lB)1lD");
        due("three a about one", read("x aaa i a", "aaaa", "i:8"), "2 6 mA=aC(lD)1lB");
    }

    private static void lettersOrMeaningAround() {
        Desk d = room("abbc", "i:7");
        d.means("u", "b");
        d.means("u", "bb");
        due("letters", d.read(0, "x u i ac", "abbc"), "1 5 mA=iC(mB)1lD");
        d.means("ac", "abc");
        due("letters, or a meaning at two places", d.read(0, "x u i ac", "abbc"), "3 4 mA=iC(mB)1mD");
    }

    /** The digit is of what is around, wherever in the answer that stands. */
    private static void behindAnotherPiece() {
        Desk d = room("abcd", "zz:7", "yy:8");
        d.means("u", "bd");
        due("in, by a meaning", d.read(0, "x a c zz u", "abcd"), "1 7 mA=lBiD(lC)1mE");
        due("about, by a meaning", d.read(0, "x a u yy c", "abcd"), "1 7 mA=lBaD(lE)1mC");
        due("in, by letters", d.read(0, "x a c zz bd", "abcd"), "1 8 mA=lBiD(lC)1lE");
    }

    private static void withinATurnedRow() {
        due("in, then a piece", read("x t b i ac d", "dcba", "t:4", "i:7"), "1 9 mA=tB(iD(lC)1lElF)");
        due("a piece, then about", read("x t a bd i c", "dcba", "t:4", "i:8"), "1 9 mA=tB(lCaE(lF)1lD)");
    }

    // ---- 'two', 'front', 'back'

    private static void twoFrontBack() {
        twoOfTwoWords();
        twoOfThreeWords();
        twoOfFourWords();
        frontAndBackOfTwoWords();
        linkOfTheFront();
        linkOfTheBack();
        noReadingWithoutAMeaning();
        theWholeClueIsRead();
        bothEndsOfEightWords();
    }

    private static Desk dog() {
        Desk d = new Desk();
        d.means("pup", "dog");
        d.means("cur", "dog");
        d.sign("is", Desk.LINK);
        return d;
    }

    private static void twoOfTwoWords() {
        due("both", dog().read(0, "pup cur", "dog"), "3 2 mA=mB");
        due("the first alone", dog().read(0, "pup is", "dog"), "0 0");
        due("the last alone", dog().read(0, "is cur", "dog"), "0 0");
        due("one word twice", dog().read(0, "cur cur", "dog"), "3 2 mA=mB");
    }

    private static void twoOfThreeWords() {
        due("a link between", dog().read(0, "pup is cur", "dog"), "3 2 mA=kBmC");
        due("no link between", dog().read(0, "pup no cur", "dog"), "0 0");
        due("a link that is first", dog().read(0, "is pup cur", "dog"), "0 0");
        due("a link that is last", dog().read(0, "pup cur is", "dog"), "0 0");
        Desk d = dog();
        d.sign("cur", Desk.LINK);
        due("a link that means it too", d.read(0, "pup cur pup", "dog"), "3 2 mA=kBmC");
    }

    private static void twoOfFourWords() {
        due("two links", dog().read(0, "pup is is cur", "dog"), "0 0");
    }

    private static void frontAndBackOfTwoWords() {
        due("front", dog().read(0, "pup dog", "dog"), "1 3 mA=lB");
        due("back", dog().read(0, "dog pup", "dog"), "1 3 lA=mB");
    }

    private static void linkOfTheFront() {
        due("three words", dog().read(0, "pup is dog", "dog"), "1 3 mA=kBlC");
        due("two words have none", dog().read(0, "pup is", "dog"), "0 0");
        due("not next to it", dog().read(0, "pup dog is", "dog"), "0 0");
        due("eight words", dog().read(0, "pup is d is o is g", "dog"), "1 7 mA=kBlCkDlEkFlG");
    }

    private static void linkOfTheBack() {
        due("three words", dog().read(0, "dog is pup", "dog"), "1 3 lAkB=mC");
        due("two words have none", dog().read(0, "is pup", "dog"), "0 0");
        due("not next to it", dog().read(0, "is dog pup", "dog"), "0 0");
    }

    private static void noReadingWithoutAMeaning() {
        due("letters alone", dog().read(0, "dog dog", "dog"), "0 0");
        due("a meaning in the middle", dog().read(0, "do pup g", "dog"), "0 0");
        due("by the answer's meaning", dog().read(1, "dog pup", "cur"), "0 0");
    }

    private static void theWholeClueIsRead() {
        due("front and back at once", dog().read(0, "pup dog cur", "dog"), "0 0");
    }

    /** Both ends mean the answer, and one of them can be a letter of it. */
    private static void bothEndsOfEightWords() {
        Desk d = new Desk();
        d.means("p", "aaaaaa");
        d.means("q", "aaaaaa");
        d.means("q", "a");
        d.sign("t", Desk.TURN);
        due("the last one", d.read(0, "p t a a a a a q", "aaaaaa"), "6 13 mA=tB(lC)lDlElFlGmH");
        due("the first one", d.read(0, "q t a a a a a p", "aaaaaa"), "6 13 mAtB(lC)lDlElFlG=mH");
        due("both", d.read(0, "q t a a a a a q", "aaaaaa"), "12 13 mA=tB(lC)lDlElFlGmH");
        due("neither", d.read(0, "p t a a a a a p", "aaaaaa"), "0 0");
    }

    // ---- 'READINGS are as many as there are ways ... 1000 at most are counted.'

    private static void numbersOfReadings() {
        numbers(27, 37, 1, "999");
        numbers(10, 10, 10, "1000");
        numbers(7, 11, 13, "1000");
        numbers(1, 1, 1, "1");
        numbers(0, 20, 20, "0");
        numbers(20, 20, 20, "1000");
        numbersOfFrontAndBack();
        numbersThatWouldWrapAround();
        numbersOfPlays();
        numbersOfParts();
    }

    /** Three pieces that are a, b, c in so many ways each: a word less its first letter, or its last one. */
    private static void numbers(int first, int second, int third, String want) {
        Desk d = room("abc", "zz:5", "zz:6");
        meanMany(d, "uu", 'a', first);
        meanMany(d, "vv", 'b', second);
        meanMany(d, "ww", 'c', third);
        int abc = d.w("abc");
        d.clue(0, 3, "x zz uu zz vv zz ww");
        String times = first + " times " + second + " times " + third;
        due(times, "" + d.room.readings(0, abc, 0), want);
        due("the best of " + times, d.room.best(0, abc, 0), want.equals("0") ? 0 : 7);
        due("possible by " + times, d.room.possible(0, 0), want.equals("0") ? 0 : 1);
    }

    private static void meanMany(Desk d, String by, char letter, int many) {
        d.w(by);
        int told = 0;
        for (char a = 'd'; a <= 'z' && told < many; a++) {
            d.means(by, "" + a + letter);
            told++;
        }
        for (char a = 'd'; a <= 'z' && told < many; a++) {
            d.means(by, "" + letter + a);
            told++;
        }
    }

    private static void numbersOfFrontAndBack() {
        Desk d = new Desk();
        for (int k = 1; k <= 10; k++) d.means("u", RUN.substring(0, k));
        due("front and back", d.read(10, "u u u u u", RUN), "168 5 mA=mBmCmDmE");
        due("the most of one row", d.read(10, "u u u u u u", RUN), "252 6 mA=mBmCmDmEmF");
        due("seven of nine", d.read(9, "u u u u u u u u", RUN.substring(0, 9)), "56 8 mA=mBmCmDmEmFmGmH");
    }

    /** Far more ways than are counted, whose products must not go round. */
    private static void numbersThatWouldWrapAround() {
        Desk d = new Desk();
        for (int k = 1; k <= 10; k++) d.means("u", RUN.substring(0, k));
        for (int play : new int[] {Desk.TURN, Desk.BEHEAD, Desk.CURTAIL, Desk.IN, Desk.ABOUT, Desk.HEADS, Desk.LINK}) {
            d.sign("u", play);
        }
        int run = d.w(RUN);
        d.clue(0, 10, "u u u u u u u u");
        due("a thousand of very many", d.room.readings(0, run, 0), 1000);
        due("the best one of all, not of a thousand", d.room.best(0, run, 0) + " " + d.out(), "5 bA(mB)kCmDkEmFkG=mH");
        due("it is possible", d.room.possible(0, 0), 1);
    }

    private static void numbersOfPlays() {
        due("heads and tails", read("x s a", "a", "s:1", "s:2"), "2 2 mA=eB(C)");
        due("shuffle and turn", read("x s ba", "ab", "s:0", "s:4"), "2 2 mA=sB(C)");
        due("behead and curtail", read("x h aa", "a", "h:5", "h:6"), "2 4 mA=bB(lC)");
        due("in and about", read("x aa i aa", "aaaa", "i:7", "i:8"), "2 6 mA=aC(lD)1lB");
        due("the first or the last is the sign", read("x sa as", "sa", "sa:0", "as:0"), "1 2 mA=sB(C)");
        due("both", read("x ab ba", "a", "ab:5", "ba:6", "ab:1", "ba:2"), "2 4 mA=bB(lC)");
    }

    private static void numbersOfParts() {
        Desk d = room("aaa");
        d.means("u", "a");
        d.means("u", "aa");
        due("two ways to part", d.read(0, "x u u", "aaa"), "2 3 mA=mBmC");
        due("one way", d.read(0, "x u u u", "aaa"), "1 4 mA=mBmCmD");
        due("none", d.read(0, "x u u u u", "aaa"), "0 0");
    }

    // ---- COST and NAME

    private static void costsAndNames() {
        costOfEach();
        nameOfEachPlace();
        longestNames();
    }

    private static void costOfEach() {
        due("letters", read("x a", "a"), "1 3 mA=lB");
        due("a link costs nothing", read("x k a", "a", "k:9"), "1 3 mA=kBlC");
        due("the rest of a shuffle costs nothing", read("x s b a", "ab", "s:0"), "1 2 mA=sB(CD)");
        due("the rest of heads costs nothing", read("x s a b", "ab", "s:1"), "2 2 mA=fB(CD)");
        due("the rest of tails costs nothing", read("x s a b", "ab", "s:2"), "2 2 mA=eB(CD)");
        due("the rest of a hidden one costs nothing", read("x s wa bw", "ab", "s:3"), "1 2 mA=hB(CD)");
        due("the rest of a turn costs", read("x s ba", "ab", "s:4"), "1 4 mA=tB(lC)");
        due("the rest of a beheaded one costs", read("x s wab", "ab", "s:5"), "1 4 mA=bB(lC)");
        due("the rest of a curtailed one costs", read("x s abw", "ab", "s:6"), "1 4 mA=cB(lC)");
        due("in", read("x b s ac", "abc", "s:7"), "1 6 mA=iC(lB)1lD");
        due("about", read("x ac s b", "abc", "s:8"), "1 6 mA=aC(lD)1lB");
    }

    private static void nameOfEachPlace() {
        due("A to H", read("x s a b c d e f", "abcdef", "s:1"), "6 2 mA=fB(CDEFGH)");
        due("H is the answer's", read("a b c d e f s x", "abcdef", "s:1"), "6 2 fG(ABCDEF)=mH");
    }

    private static void longestNames() {
        Desk d = room("ab", "t:4");
        due("29 bytes", d.read(0, "x t t t t t t ab", "ab"), "1 9 mA=tB(tC(tD(tE(tF(tG(lH))))))");
        due("of OUT", d.room.count(8), 29);
        due("the same, back", d.read(0, "t t t t t t ab x", "ab"), "1 9 tA(tB(tC(tD(tE(tF(lG))))))=mH");
        due("three in one another", read("x d i ce i bf i ag", "abcdefg", "i:7"), "1 12 mA=iG(iE(iC(lB)1lD)1lF)1lH");
    }

    // ---- 'BEST: the least COST; of like ones the NAME that is least, byte by byte.'

    private static void bestOnes() {
        cheaperBeatsALesserName();
        lesserPlay();
        lesserDigit();
        lesserPlace();
        frontOrBack();
        linkOrNot();
    }

    private static void cheaperBeatsALesserName() {
        Desk d = room("ab", "h:5", "h:4");
        d.w("cab");
        d.means("cab", "ba");
        due("a turn for 3, not a beheading for 4", d.read(0, "x h cab", "ab"), "2 3 mA=tB(mC)");
    }

    private static void lesserPlay() {
        due("b ahead of c", read("x h aa", "a", "h:5", "h:6"), "2 4 mA=bB(lC)");
        due("a ahead of i", read("x aa i aa", "aaaa", "i:7", "i:8"), "2 6 mA=aC(lD)1lB");
        due("e ahead of f", read("x s a", "a", "s:1", "s:2"), "2 2 mA=eB(C)");
        due("f ahead of s", read("x s ba ab", "ba", "s:1", "s:0"), "1 2 mA=fB(CD)");
        due("h ahead of s", read("x s ba ba", "ab", "s:3", "s:0"), "1 2 mA=hB(CD)");
        due("f ahead of h", read("x s aab aba", "aa", "s:1", "s:3"), "1 2 mA=fB(CD)");
    }

    private static void lesserDigit() {
        due("1 ahead of 2", read("x a i aaa", "aaaa", "i:7"), "2 6 mA=iC(lB)1lD");
        due("1 ahead of 8", read("x a i aaaaaaaaa", RUN, "i:7"), "8 6 mA=iC(lB)1lD");
    }

    private static void lesserPlace() {
        due("the sign that is first", read("x ab ba", "ab", "ab:4", "ba:4"), "1 4 mA=tB(lC)");
        due("the sign that is last", read("x ab ba", "ba", "ab:4", "ba:4"), "1 4 mA=tC(lB)");
        due("F ahead of G, behind much that is alike", read("x c d e f aa aa", "cdefa", "aa:5"), "2 12 mA=lBlClDlEbF(lG)");
        due("B ahead of C", read("x aa aa", "a", "aa:5"), "2 4 mA=bB(lC)");
    }

    private static void frontOrBack() {
        due("m, then = ahead of k", dog().read(0, "pup is cur", "dog"), "3 2 mA=kBmC");
        Desk d = new Desk();
        d.means("cab", "bca");
        d.means("acb", "bca");
        d.sign("s", Desk.SHUFFLE);
        due("m ahead of s: front", d.read(0, "cab s acb", "bca"), "2 2 mA=sB(C)");
        Desk e = new Desk();
        e.means("ab", "a");
        e.means("ac", "a");
        e.sign("s", Desk.HEADS);
        due("f ahead of m: back", e.read(0, "ab s ac", "a"), "2 2 fB(A)=mC");
    }

    private static void linkOrNot() {
        Desk d = room("aa", "k:9", "k:4");
        d.means("k", "a");
        due("a link with letters costs less than a turn", d.read(0, "x a k a", "aa"), "3 5 mA=lBkClD");
    }

    // ---- Promises 11 and 12: readings, best

    private static void readingsAndBest() {
        readingsOfNoClue();
        readingsOfNoWord();
        readingsOfAnotherLength();
        noReadingIsZero();
        readingsLeaveOut();
        outStaysWhenThereIsNone();
        outIsTheLatest();
    }

    private static void readingsOfNoClue() {
        Desk d = dog();
        d.clue(0, 3, "pup cur");
        d.clue(15, 3, "pup cur");
        int dog = d.w("dog");
        for (int c : new int[] {-1, 1, 14, 16, LEAST, GREATEST}) {
            due("readings of clue " + c, d.room.readings(c, dog, 0), -1);
            due("best of clue " + c, d.room.best(c, dog, 0), -1);
        }
        due("clue 0", d.room.readings(0, dog, 0), 3);
        due("clue 15", d.room.readings(15, dog, 0), 3);
    }

    private static void readingsOfNoWord() {
        Desk d = dog();
        d.clue(0, 3, "pup cur");
        for (int w : new int[] {-1, d.room.count(1), 119, 120, LEAST, GREATEST}) {
            due("readings by word " + w, d.room.readings(0, w, 0), -1);
            due("best by word " + w, d.room.best(0, w, 0), -1);
        }
    }

    private static void readingsOfAnotherLength() {
        Desk d = dog();
        d.means("pup", "do");
        d.means("cur", "do");
        d.means("pup", "dogs");
        d.means("cur", "dogs");
        d.clue(0, 3, "pup cur");
        due("a letter too few", d.room.readings(0, d.w("do"), 0), -1);
        due("a letter too many", d.room.readings(0, d.w("dogs"), 0), -1);
        due("best, a letter too few", d.room.best(0, d.w("do"), 0), -1);
        due("best, a letter too many", d.room.best(0, d.w("dogs"), 0), -1);
        due("neither is possible", d.room.possible(0, 0), 1);
    }

    private static void noReadingIsZero() {
        Desk d = dog();
        d.clue(0, 3, "pup cur");
        due("readings", d.room.readings(0, d.w("cur"), 0), 0);
        due("best", d.room.best(0, d.w("cur"), 0), 0);
    }

    private static void readingsLeaveOut() {
        Desk d = dog();
        d.clue(0, 3, "pup cur");
        d.room.readings(0, d.w("dog"), 0);
        due("OUT is empty", d.room.count(8), 0);
        d.room.possible(0, 0);
        due("OUT is empty still", d.octetThrows(0), true);
    }

    private static void outStaysWhenThereIsNone() {
        Desk d = dog();
        d.clue(0, 3, "pup cur");
        d.room.best(0, d.w("dog"), 0);
        due("0", d.room.best(0, d.w("cur"), 0), 0);
        due("OUT stays", d.out(), "mA=mB");
        due("NONE", d.room.best(0, -1, 0), -1);
        due("OUT stays then", d.out(), "mA=mB");
        due("NONE below 0", d.room.best(0, d.w("dog"), -1), -1);
        due("OUT stays there", d.out(), "mA=mB");
    }

    private static void outIsTheLatest() {
        Desk d = dog();
        d.clue(0, 3, "pup cur");
        d.clue(1, 3, "pup is d is o is g");
        d.room.best(1, d.w("dog"), 0);
        due("a long one", d.out(), "mA=kBlCkDlEkFlG");
        d.room.best(0, d.w("dog"), 0);
        due("a short one behind it", d.out(), "mA=mB");
        due("its size", d.room.count(8), 5);
        due("nothing of the long one", d.octetThrows(5), true);
    }

    // ---- Promise 13: octet

    private static void octets() {
        Desk empty = new Desk();
        for (int k : new int[] {0, 1, -1, LEAST, GREATEST}) due("octet " + k + " of none", empty.octetThrows(k), true);
        Desk d = dog();
        d.clue(0, 3, "pup cur");
        d.room.best(0, d.w("dog"), 0);
        for (int k : new int[] {-1, 5, 6, LEAST, GREATEST}) due("octet " + k + " of five", d.octetThrows(k), true);
        due("octet 0", d.room.octet(0), (int) 'm');
        due("octet 4", d.room.octet(4), (int) 'B');
        due("a throw leaves OUT", d.out(), "mA=mB");
    }

    // ---- Promises 14 and 15: possible, possibleAt

    private static void possibles() {
        possibleOfNoClue();
        possibleNone();
        possibleAtItsEnds();
        possibleOfEveryWord();
        possibleGoesBackAndForth();
    }

    private static void possibleOfNoClue() {
        Desk d = dog();
        d.clue(0, 3, "pup cur");
        d.clue(15, 3, "pup cur");
        for (int c : new int[] {-1, 1, 14, 16, LEAST, GREATEST}) {
            due("possible of clue " + c, d.room.possible(c, 0), -1);
            due("possibleAt of clue " + c, d.room.possibleAt(c, 0, 0), -1);
        }
        due("clue 0", d.room.possible(0, 0), 1);
        due("clue 15", d.room.possible(15, 0), 1);
    }

    private static void possibleNone() {
        Desk d = dog();
        d.clue(0, 4, "pup cur");
        due("none", d.room.possible(0, 0), 0);
        due("the first of none", d.room.possibleAt(0, 0, 0), -1);
    }

    private static void possibleAtItsEnds() {
        Desk d = Desk.small();
        due("four", d.room.possible(0, 0), 4);
        for (int k = 0; k < 4; k++) due("at " + k, d.room.possibleAt(0, k, 0), k);
        for (int k : new int[] {-1, 4, 5, 119, 120, LEAST, GREATEST}) due("at " + k, d.room.possibleAt(0, k, 0), -1);
    }

    /** As many as there can be: 119 words that the 120th means. */
    private static void possibleOfEveryWord() {
        Desk d = new Desk();
        d.w("x");
        for (int k = 0; k < 119; k++) d.means("x", "" + (char) ('a' + k / 20) + (char) ('a' + k % 20));
        d.clue(0, 2, "x x");
        due("119 words", d.room.possible(0, 0), 119);
        due("the first", d.room.possibleAt(0, 0, 0), 1);
        due("the last", d.room.possibleAt(0, 118, 0), 119);
        due("no more", d.room.possibleAt(0, 119, 0), -1);
    }

    private static void possibleGoesBackAndForth() {
        Desk d = new Desk();
        d.means("x", "ab");
        d.clue(0, 2, "x x");
        d.room.next(1);
        d.means("x", "ba");
        d.room.next(1);
        d.clue(0, 2, "x ab");
        for (int k = 0; k < 3; k++) {
            due("day 0", d.room.possible(0, 0), 1);
            due("day 2", d.room.possible(0, 2), 1);
            due("day 1", d.room.possible(0, 1), 2);
            due("ahead of all", d.room.possible(0, -1), -1);
            due("the second of day 1", d.room.possibleAt(0, 1, 1), d.w("ba"));
        }
    }
}
