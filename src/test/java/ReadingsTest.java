/** Promises 11 to 13: the readings of a clue, by each play, their number, the best one's cost and name. */
public final class ReadingsTest {

    public static void main(String[] args) {
        wrongInputs();
        outStays();
        twoFrontBack();
        links();
        shuffle();
        headsAndTails();
        hidden();
        turn();
        beheadAndCurtail();
        inAndAbout();
        bestOfLikeCosts();
        asOfDays();
        thousand();
        longName();
        Desk.close();
    }

    private static void due(String what, Object got, Object want) {
        Desk.due(what, got, want);
    }

    private static void wrongInputs() {
        Desk d = new Desk();
        d.means("pup", "dog");
        d.w("mouse");
        d.room.next(1);
        d.w("cat");
        d.clue(0, 3, "pup dog");
        int dog = d.w("dog");
        due("clue -1", d.room.readings(-1, dog, 1), -1);
        due("clue 16", d.room.readings(16, dog, 1), -1);
        due("clue 1", d.room.readings(1, dog, 1), -1);
        due("not known", d.room.readings(0, dog, 0), -1);
        due("word -1", d.room.readings(0, -1, 1), -1);
        due("word 99", d.room.readings(0, 99, 1), -1);
        due("another length", d.room.readings(0, d.w("mouse"), 1), -1);
        due("none", d.room.readings(0, d.w("cat"), 1), 0);
        due("one", d.room.readings(0, dog, 1), 1);
        due("best of clue -1", d.room.best(-1, dog, 1), -1);
        due("best of word -1", d.room.best(0, -1, 1), -1);
        due("best of another length", d.room.best(0, d.w("mouse"), 1), -1);
        due("best ahead of it", d.room.best(0, dog, 0), -1);
    }

    private static void outStays() {
        Desk d = new Desk();
        due("OUT is empty", d.octetThrows(0), true);
        due("a best one", d.read(0, "pup dog", "dog"), "0 0");
        d.means("pup", "dog");
        due("a best one then", d.read(0, "dog"), "1 3 mA=lB");
        due("octet 4", d.room.octet(4), (int) 'B');
        due("octet 5", d.octetThrows(5), true);
        due("octet -1", d.octetThrows(-1), true);
        due("octet of the least number", d.octetThrows(Integer.MIN_VALUE), true);
        d.w("cat");
        due("none", d.room.best(0, d.w("cat"), 0), 0);
        due("OUT stays", d.out(), "mA=lB");
        due("NONE", d.room.best(1, d.w("cat"), 0), -1);
        due("OUT stays then", d.out(), "mA=lB");
    }

    private static void twoFrontBack() {
        Desk d = new Desk();
        d.means("pup", "dog");
        d.means("cur", "dog");
        due("two, front and back", d.read(0, "pup cur", "dog"), "3 2 mA=mB");
        due("the same word twice", d.read(0, "pup pup", "dog"), "3 2 mA=mB");
        due("front", d.read(0, "pup dog", "dog"), "1 3 mA=lB");
        due("back", d.read(0, "dog pup", "dog"), "1 3 lA=mB");
        due("neither", d.read(0, "dog dog", "dog"), "0 0");
        due("parts", d.read(0, "pup do g", "dog"), "1 5 mA=lBlC");
        due("parts in another order", d.read(0, "pup g do", "dog"), "0 0");
        due("three words without a link", d.read(0, "pup x cur", "dog"), "0 0");
        due("means is one way", d.read(1, "dog cur", "pup"), "0 0");
    }

    private static void links() {
        Desk d = new Desk();
        d.means("pup", "dog");
        d.means("cur", "dog");
        d.sign("is", Desk.LINK);
        due("two, front and back with a link", d.read(0, "pup is cur", "dog"), "3 2 mA=kBmC");
        due("a link and letters", d.read(0, "pup is dog", "dog"), "1 3 mA=kBlC");
        due("letters, a link", d.read(0, "dog is pup", "dog"), "1 3 lAkB=mC");
        due("two links", d.read(0, "pup is is dog", "dog"), "0 0");
        due("a link between pieces", d.read(0, "pup do is g", "dog"), "1 5 mA=lBkClD");
        due("links at both", d.read(0, "pup is do is g", "dog"), "1 5 mA=kBlCkDlE");
        due("two links between pieces", d.read(0, "pup do is is g", "dog"), "0 0");
        due("a link at the end of the row", d.read(0, "pup do g is", "dog"), "0 0");
        due("a link that is letters too", d.read(1, "cur is", "is"), "0 0");
        d.means("cur", "this");
        d.means("is", "s");
        due("a link, or a piece", d.read(2, "cur th is is", "this"), "1 5 mA=lBkClD");
        d.means("cur", "thiss");
        due("a link by its meaning", d.read(3, "cur th is is", "thiss"), "1 6 mA=lBlCmD");
        d.means("cur", "thisis");
        due("letters of both", d.read(4, "cur th is is", "thisis"), "1 7 mA=lBlClD");
    }

    private static void shuffle() {
        Desk d = new Desk();
        d.means("x", "cat");
        d.sign("odd", Desk.SHUFFLE);
        due("sign first", d.read(0, "x odd act", "cat"), "1 2 mA=sB(C)");
        due("sign last", d.read(0, "act odd x", "cat"), "1 2 sB(A)=mC");
        due("of two words", d.read(0, "x ta odd c", "cat"), "0 0");
        due("of two words behind it", d.read(0, "x odd ta c", "cat"), "1 2 mA=sB(CD)");
        due("in the order that they stand", d.read(0, "x odd cat", "cat"), "0 0");
        due("in that order, parted", d.read(0, "x odd c at", "cat"), "0 0");
        due("too many letters", d.read(0, "x odd act s", "cat"), "0 0");
        due("other letters", d.read(0, "x odd cab", "cat"), "0 0");
        due("letters in other numbers", d.read(0, "x odd tta", "cat"), "0 0");
        d.means("x", "aab");
        due("like letters", d.read(1, "x odd baa", "aab"), "1 2 mA=sB(C)");
        due("like letters in other numbers", d.read(1, "x odd bba", "aab"), "0 0");
        d.means("x", "odd");
        due("a sign first, or last", d.read(2, "x odd odd", "odd"), "0 0");
        d.sign("dod", Desk.SHUFFLE);
        d.means("x", "ddo");
        due("either is the sign", d.read(3, "x odd dod", "ddo"), "2 2 mA=sB(C)");
        d.means("x", "zynmlkjiha");
        due("ten letters", d.read(4, "x odd ahijklmnyz", "zynmlkjiha"), "1 2 mA=sB(C)");
    }

    private static void headsAndTails() {
        Desk d = new Desk();
        d.means("x", "cat");
        d.sign("first", Desk.HEADS);
        d.sign("final", Desk.TAILS);
        due("heads", d.read(0, "first cold ant tea x", "cat"), "1 2 fA(BCD)=mE");
        due("heads, sign last", d.read(0, "x cold ant tea first", "cat"), "1 2 mA=fE(BCD)");
        due("tails", d.read(0, "x final arc tea ant", "cat"), "1 2 mA=eB(CDE)");
        due("not enough", d.read(0, "x first cold ant", "cat"), "0 0");
        due("too many", d.read(0, "x first cold ant tea tea", "cat"), "0 0");
        due("another order", d.read(0, "x first ant cold tea", "cat"), "0 0");
        due("one letter of one word", d.read(0, "x first cold at", "cat"), "1 4 mA=fB(C)lD");
        d.means("x", "a");
        d.sign("first", Desk.TAILS);
        due("by both plays", d.read(1, "x first a", "a"), "2 2 mA=eB(C)");
    }

    private static void hidden() {
        Desk d = new Desk();
        d.means("x", "cat");
        d.sign("some", Desk.HIDDEN);
        due("in two words", d.read(0, "x some magic atom", "cat"), "1 2 mA=hB(CD)");
        due("sign last", d.read(0, "x magic atom some", "cat"), "1 2 mA=hD(BC)");
        due("from its first letter", d.read(0, "x some c atom", "cat"), "0 0");
        due("to its last letter", d.read(0, "x some magic at", "cat"), "0 0");
        due("in one word", d.read(0, "x some scatter", "cat"), "0 0");
        due("in the first one alone", d.read(0, "x some scatter on", "cat"), "0 0");
        due("in the last one alone", d.read(0, "x some on scatter", "cat"), "0 0");
        due("over three words", d.read(0, "x some mac a ten", "cat"), "1 2 mA=hB(CDE)");
        due("a middle one not whole", d.read(0, "x some mac as ten", "cat"), "0 0");
        d.means("x", "aa");
        due("a word of one letter first", d.read(1, "x some a aab", "aa"), "0 0");
        due("from within to within", d.read(1, "x some aa ab", "aa"), "1 2 mA=hB(CD)");
        d.means("x", "aaa");
        due("there twice is one", d.read(2, "x some baaa aaab", "aaa"), "1 2 mA=hB(CD)");
    }

    private static void turn() {
        Desk d = new Desk();
        d.means("x", "dog");
        d.means("deity", "god");
        d.sign("back", Desk.TURN);
        due("letters", d.read(0, "x back god", "dog"), "1 4 mA=tB(lC)");
        due("meaning", d.read(0, "x deity back", "dog"), "1 3 mA=tC(mB)");
        due("a row", d.read(0, "x back go d", "dog"), "1 6 mA=tB(lClD)");
        due("a piece and a turned one", d.read(0, "x d back go", "dog"), "1 6 mA=lBtC(lD)");
        due("the turned one first", d.read(0, "x go back d", "dog"), "0 0");
        d.means("x", "rat");
        due("twice", d.read(1, "x back back rat", "rat"), "1 5 mA=tB(tC(lD))");
        due("at both ends", d.read(1, "x back rat back", "rat"), "2 5 mA=tB(tD(lC))");
        d.means("x", "aba");
        due("the same from both ends", d.read(2, "x back aba", "aba"), "1 4 mA=tB(lC)");
        d.sign("is", Desk.LINK);
        due("a link within", d.read(3, "x back go is d", "dog"), "1 6 mA=tB(lCkDlE)");
    }

    private static void beheadAndCurtail() {
        Desk d = new Desk();
        d.means("x", "lap");
        d.sign("headless", Desk.BEHEAD);
        d.sign("endless", Desk.CURTAIL);
        due("behead", d.read(0, "x headless clap", "lap"), "1 4 mA=bB(lC)");
        due("sign last", d.read(0, "x clap headless", "lap"), "1 4 mA=bC(lB)");
        d.means("thing", "clap");
        due("of a meaning", d.read(0, "x headless thing", "lap"), "1 3 mA=bB(mC)");
        d.means("thing", "flap");
        due("of two meanings", d.read(0, "x headless thing", "lap"), "2 3 mA=bB(mC)");
        d.means("clap", "flap");
        due("of letters and a meaning", d.read(0, "x headless clap", "lap"), "2 3 mA=bB(mC)");
        due("curtail", d.read(1, "x endless laps", "lap"), "1 4 mA=cB(lC)");
        due("not behind", d.read(1, "x endless clap", "lap"), "0 0");
        due("not ahead", d.read(1, "x headless laps", "lap"), "0 0");
        due("of two words", d.read(1, "x headless c lap", "lap"), "0 0");
        d.means("x", "abcdefghij");
        due("eleven letters there are not", d.read(2, "x headless abcdefghij", "abcdefghij"), "0 0");
        d.means("x", "a");
        due("one letter has nothing", d.read(3, "x headless a", "a"), "0 0");
        due("two letters", d.read(3, "x headless ba", "a"), "1 4 mA=bB(lC)");
    }

    private static void inAndAbout() {
        Desk d = new Desk();
        d.means("x", "boat");
        d.sign("in", Desk.IN);
        d.sign("about", Desk.ABOUT);
        due("in", d.read(0, "x o in bat", "boat"), "1 6 mA=iC(lB)1lD");
        due("about", d.read(0, "x bat about o", "boat"), "1 6 mA=aC(lD)1lB");
        due("the other way round", d.read(0, "x bat in o", "boat"), "0 0");
        due("not ahead of the first", d.read(0, "x b in oat", "boat"), "0 0");
        due("not behind the last", d.read(0, "x t in boa", "boat"), "0 0");
        d.means("club", "bat");
        due("a meaning around", d.read(0, "x o in club", "boat"), "1 5 mA=iC(lB)1mD");
        d.means("love", "o");
        due("a meaning within", d.read(0, "x club about love", "boat"), "1 4 mA=aC(mD)1mB");
        d.w("a");
        due("a row within", d.read(0, "x o a in bt", "boat"), "1 8 mA=iD(lBlC)1lE");
        due("a row within, about", d.read(0, "x bt about o a", "boat"), "1 8 mA=aC(lDlE)1lB");
        d.means("x", "aaaa");
        due("between which letters", d.read(1, "x a in aaa", "aaaa"), "2 6 mA=iC(lB)1lD");
        due("a piece of more", d.read(1, "x aa about a a", "aaaa"), "2 8 mA=aC(lD)1lBlE");
        d.means("x", "bcda");
        due("within at two", d.read(2, "x c in bda", "bcda"), "1 6 mA=iC(lB)1lD");
        due("within at three", d.read(2, "x d about bca", "bcda"), "0 0");
        due("the digit", d.read(2, "x d in bca", "bcda"), "1 6 mA=iC(lB)2lD");
        d.means("x", "abcdefghij");
        due("the greatest digit", d.read(3, "x i in abcdefghj", "abcdefghij"), "1 6 mA=iC(lB)8lD");
        d.means("x", "ab");
        due("one letter is no two", d.read(4, "x a in b", "ab"), "0 0");
    }

    private static void bestOfLikeCosts() {
        Desk d = new Desk();
        d.means("x", "ab");
        d.means("y", "ab");
        d.sign("p", Desk.SHUFFLE);
        d.sign("p", Desk.TURN);
        due("the least cost", d.read(0, "x p ba", "ab"), "2 2 mA=sB(C)");
        d.means("q", "ba");
        d.sign("q", Desk.HEADS);
        due("the least name", d.read(0, "x p q a b y", "ab"), "0 0");
        d.sign("r", Desk.HEADS);
        d.sign("r", Desk.TAILS);
        due("tails are e, ahead of f", d.read(1, "x r a b", "ab"), "4 2 mA=eB(CD)");
        due("front is m, behind e", d.read(1, "x r a b y", "ab"), "0 0");
        d.means("a", "b");
        d.means("b", "a");
        d.means("u", "a");
        d.means("u", "b");
        due("each letter once", d.read(2, "x u u", "ab"), "1 3 mA=mBmC");
        d.means("u", "abb");
        d.means("u", "bbb");
        d.means("x", "abbb");
        due("ways to part the letters", d.read(3, "x u u", "abbb"), "2 3 mA=mBmC");
    }

    private static void asOfDays() {
        Desk d = new Desk();
        int cat = d.w("cat");
        d.means("x", "cat");
        d.clue(0, 3, "x odd act");
        d.room.next(2);
        d.sign("odd", Desk.SHUFFLE);
        d.room.next(2);
        d.means("act", "cat");
        due("ahead of the sign", d.room.readings(0, cat, 1), 0);
        due("with the sign", d.room.readings(0, cat, 2), 1);
        due("a day later", d.room.readings(0, cat, 3), 1);
        due("nothing of the meaning", d.room.best(0, cat, 3), 2);
        due("possible ahead of the sign", d.room.possible(0, 1), 0);
        due("possible with it", d.room.possible(0, 2), 1);
        due("possible ahead of it again", d.room.possible(0, 0), 0);
        d.room.next(1);
        int new5 = d.w("tca");
        due("a word that is not known", d.room.readings(0, new5, 4), -1);
        due("a word that is", d.room.readings(0, new5, 5), 0);
        d.means("x", "tca");
        due("with its meaning", d.room.readings(0, new5, 5), 1);
        due("possible", d.room.possible(0, 5), 2);
        due("possible the day ahead", d.room.possible(0, 4), 1);
    }

    /** Words that mean all runs of a: how often they part ten letters is a number of choices. */
    private static void thousand() {
        Desk d = new Desk();
        String run = "aaaaaaaaaa";
        for (int k = 1; k <= 10; k++) d.means("x", run.substring(0, k));
        due("nine letters in two", d.read(0, "x x x", run.substring(0, 9)), "16 3 mA=mBmC");
        due("ten letters in five", d.read(1, "x x x x x x", run), "252 6 mA=mBmCmDmEmF");
        due("ten letters in three", d.read(2, "x x x x", run), "72 4 mA=mBmCmD");
        d.sign("x", Desk.TURN);
        due("more than a thousand", d.read(3, "x x x x x x x", run).startsWith("1000 "), true);
        due("those are possible", d.room.possible(3, 0), 1);
    }

    private static void longName() {
        Desk d = new Desk();
        d.means("x", "ab");
        d.sign("t", Desk.TURN);
        due("six turns", d.read(0, "x t t t t t t ab", "ab"), "1 9 mA=tB(tC(tD(tE(tF(tG(lH))))))");
        due("its length", d.room.count(8), 29);
        d.means("x", "abc");
        d.sign("u", Desk.IN);
        due("turns within", d.read(1, "x t t t b u ac", "abc"), "2 9 mA=iF(tB(tC(tD(lE))))1lG");
        due("turns about it", d.read(1, "x t t t b u ca", "abc"), "2 9 mA=tB(iF(tC(tD(lE)))1lG)");
    }
}
