import java.util.Arrays;
import java.util.NoSuchElementException;

/**
 * A setter's room for clues of wordplay: words, what they mean and what plays they are signs of;
 * clues and every way to read them; lights of a grid that check one another; grids sent in.
 * Everything told is known from the day it is told on, so each question names the day it is asked of.
 */
public final class ClueRoom {

    public static final int NONE = -1;

    private static final int MOST_TAPE = 180;
    private static final int LAST_DAY = 999;

    private static final int MOST_WORDS = 120;
    private static final int LONGEST = 10;
    private static final int MOST_MEANINGS = 240;
    private static final int MOST_SIGNS = 120;

    private static final int PLAYS = 10;
    private static final int SHUFFLE = 0;
    private static final int HEADS = 1;
    private static final int TAILS = 2;
    private static final int HIDDEN = 3;
    private static final int TURN = 4;
    private static final int BEHEAD = 5;
    private static final int CURTAIL = 6;
    private static final int IN = 7;
    private static final int ABOUT = 8;
    private static final int LINK = 9;
    /** The plays 0 to 6, whose sign stands at an end of its piece. */
    private static final int END_PLAYS = 127;

    private static final int MOST_CLUES = 16;
    private static final int LEAST_CLUE_WORDS = 2;
    private static final int MOST_CLUE_WORDS = 8;
    private static final int MOST_TELLINGS = 60;
    private static final int MOST_SOLUTIONS = 60;
    private static final int MOST_READINGS = 1000;

    private static final int SIDE = 9;
    private static final int CELLS = 81;
    private static final int MOST_FILLINGS = 1000;
    private static final int MOST_TRIES = 20000;
    private static final int GIVEN_UP = -2;

    private static final int KINDS = 5;
    private static final int MOST_GRIDS = 30;
    private static final int MOST_SENT_LETTERS = 160;

    /** The signs a name is made of, by rising bytes; the first stands for the end of a name. */
    private static final String SYMBOLS = " ()12345678=ABCDEFGHabcefhiklmst";
    private static final int OPENED = 1;
    private static final int CLOSED = 2;
    private static final int DIGITS = 2;
    private static final int EQUALS = 11;
    private static final int FIRST_WORD = 12;
    private static final int LETTERS_SYMBOL = 28;
    private static final int MEANING_SYMBOL = 29;
    private static final int[] PLAY_SYMBOLS = {30, 24, 23, 25, 31, 21, 22, 26, 20, 27};

    private static final int SYMBOL_BITS = 5;
    private static final int SYMBOLS_A_LONG = 12;
    private static final int TOP_SHIFT = 55;
    private static final int NAME_LONGS = 3;
    private static final int LONGEST_NAME = 36;

    private static final int MEANING_COST = 1;
    private static final int LETTERS_COST = 2;
    private static final int SIGN_COST = 1;
    /** Above the cost of any reading, and small enough that sums of it stay far from overflow. */
    private static final int NO_COST = 1000;

    private static final int WORD_SPANS = 36;
    private static final int LETTER_SPANS = 55;
    private static final int PIECES = 2;
    /** 4 * WORD_SPANS * LETTER_SPANS places of rows and pieces stand ahead of these two. */
    private static final int WHOLE = 7920;
    private static final int NOWHERE = 7921;
    private static final int PLACES = 7922;
    private static final int DEEPEST = 40;

    private final int[] tape = new int[MOST_TAPE];
    private int tapeSize;
    private int today;
    private final int[] out = new int[LONGEST_NAME];
    private int outSize;
    private final Lexicon lexicon = new Lexicon();
    private final Clues clues = new Clues();
    private final Reader reader = new Reader(lexicon);
    private final Possibles possibles = new Possibles(lexicon, clues, reader);
    private final Grid grid = new Grid();
    private final Solver solver = new Solver(lexicon, possibles, grid);
    private final Critic critic = new Critic(lexicon, possibles, grid);
    private final Post post = new Post(lexicon, possibles, grid);

    public ClueRoom() {
    }

    public int feed(int a, int b, int c, int d, int e) {
        if (tapeSize + 20 > MOST_TAPE) {
            return NONE;
        }
        putNumber(a);
        putNumber(b);
        putNumber(c);
        putNumber(d);
        putNumber(e);
        return tapeSize;
    }

    public boolean end(int n) {
        if (n < 0 || n > tapeSize) {
            return false;
        }
        tapeSize = n;
        return true;
    }

    public int next(int n) {
        if (n < 0 || n > LAST_DAY || today + n > LAST_DAY) {
            return NONE;
        }
        today += n;
        return today;
    }

    public int word() {
        int size = takeTape();
        return lexicon.addWord(tape, size, today);
    }

    public boolean means(int a, int b) {
        return lexicon.addMeaning(a, b, today);
    }

    public boolean sign(int w, int play) {
        return lexicon.addSign(w, play, today);
    }

    public int clue(int c, int length) {
        int size = takeTape();
        for (int k = 0; k < size; k++) {
            if (!lexicon.hasWord(tape[k])) {
                return NONE;
            }
        }
        return clues.tell(c, length, tape, size, today);
    }

    public boolean light(int c, int row, int column, boolean down) {
        if (!clues.isTold(c)) {
            return false;
        }
        return grid.addLight(c, row, column, down, clues.lengths[c]);
    }

    public boolean solution(int c, int w) {
        if (!grid.hasLight(c) || !lexicon.hasWord(w) || lexicon.lengths[w] != grid.lengths[c]) {
            return false;
        }
        return grid.addSolution(c, w, today);
    }

    public int readings(int c, int w, int t) {
        if (!takeClue(c, w, t)) {
            return NONE;
        }
        return reader.readBy(w, MOST_READINGS, false);
    }

    public int best(int c, int w, int t) {
        if (!takeClue(c, w, t)) {
            return NONE;
        }
        if (reader.readBy(w, MOST_READINGS, true) == 0) {
            return 0;
        }
        outSize = reader.writeName(out);
        return reader.leastCost();
    }

    public int octet(int k) throws NoSuchElementException {
        if (k < 0 || k >= outSize) {
            throw new NoSuchElementException();
        }
        return out[k];
    }

    public int possible(int c, int t) {
        if (!clues.isTold(c) || !possibles.recall(c, t)) {
            return NONE;
        }
        return possibles.sizes[c];
    }

    public int possibleAt(int c, int k, int t) {
        if (!clues.isTold(c) || !possibles.recall(c, t) || k < 0 || k >= possibles.sizes[c]) {
            return NONE;
        }
        return possibles.wordAt(c, k);
    }

    public boolean enter(int row, int column, int letter) {
        if (!grid.isLit(row, column) || letter < 0 || letter > 26) {
            return false;
        }
        grid.entered[row * SIDE + column] = letter;
        return true;
    }

    public int cell(int row, int column) {
        if (!grid.isLit(row, column)) {
            return NONE;
        }
        return grid.entered[row * SIDE + column];
    }

    public int left(int c, int t) {
        if (!grid.hasLight(c)) {
            return NONE;
        }
        possibles.recallLights(grid, t);
        solver.settle();
        return solver.sizes[c];
    }

    public int nextLight(int t) {
        possibles.recallLights(grid, t);
        solver.settle();
        return solver.nextOne();
    }

    public int solve(int t) {
        possibles.recallLights(grid, t);
        solver.settle();
        return solver.enterAll();
    }

    public int fillings(int t) {
        possibles.recallLights(grid, t);
        return solver.fillAll();
    }

    public int filled(int c) {
        if (c < 0 || c >= MOST_CLUES) {
            return NONE;
        }
        return solver.told[c];
    }

    public int unfair(int t) {
        possibles.recallLights(grid, t);
        return critic.reviewAll(t);
    }

    public int told(int k, int what) throws NoSuchElementException {
        if (k < 0 || k >= critic.size || what < 0 || what > 1) {
            throw new NoSuchElementException();
        }
        return what == 0 ? critic.kinds[k] : critic.lights[k];
    }

    public int send() {
        int size = takeTape();
        return post.addGrid(tape, size, today);
    }

    public int right(int g, int t) {
        if (g < 0 || g >= post.log.size) {
            return NONE;
        }
        possibles.recallLights(grid, t);
        return post.isRight(g, t) ? 1 : 0;
    }

    public int winner(int t) {
        possibles.recallLights(grid, t);
        for (int g = 0; g < post.log.size; g++) {
            if (post.isRight(g, t)) {
                return g;
            }
        }
        return NONE;
    }

    public int count(int what) {
        switch (what) {
            case 0:
                return today;
            case 1:
                return lexicon.wordLog.size;
            case 2:
                return lexicon.meaningLog.size;
            case 3:
                return lexicon.signLog.size;
            case 4:
                return clues.told;
            case 5:
                return grid.lights;
            case 6:
                return post.log.size;
            case 7:
                return tapeSize;
            case 8:
                return outSize;
            default:
                return NONE;
        }
    }

    private void putNumber(int number) {
        for (int shift = 24; shift >= 0; shift -= 8) {
            if (tapeSize < MOST_TAPE) {
                tape[tapeSize] = (number >>> shift) & 255;
                tapeSize++;
            }
        }
    }

    /** Whoever takes the tape leaves it empty, whether it can be used or not; its bytes stand until the next feed. */
    private int takeTape() {
        int size = tapeSize;
        tapeSize = 0;
        return size;
    }

    private boolean takeClue(int c, int w, int t) {
        int telling = clues.tellingOf(c, t);
        if (telling == NONE || !lexicon.isKnown(w, t) || lexicon.lengths[w] != clues.lengths[c]) {
            return false;
        }
        reader.takeClue(clues, telling, t);
        return true;
    }

    /**
     * The days on which things were told, and what each was about, in their order. Days never go back,
     * so what is known as of a day is always the first ones of a log, and their number stands for the day.
     */
    private static final class Log {
        private final int[] days;
        private final int[] subjects;
        private int size;

        Log(int most) {
            int room = Math.max(0, most);
            days = new int[room];
            subjects = new int[room];
        }

        boolean isFull() {
            return size >= days.length;
        }

        /** The new entry's place, or NONE if the log is full. */
        int add(int subject, int day) {
            if (isFull()) {
                return NONE;
            }
            days[size] = day;
            subjects[size] = subject;
            size++;
            return size - 1;
        }

        int knownOn(int t) {
            int known = size;
            while (known > 0 && days[known - 1] > t) {
                known--;
            }
            return known;
        }

        /** The place of the last entry about a subject that is known on a day, or NONE. */
        int latest(int subject, int t) {
            for (int k = knownOn(t) - 1; k >= 0; k--) {
                if (subjects[k] == subject) {
                    return k;
                }
            }
            return NONE;
        }
    }

    /** The words, what they mean, and the plays that they are signs of. */
    private static final class Lexicon {
        private final Log wordLog = new Log(MOST_WORDS);
        private final Log meaningLog = new Log(MOST_MEANINGS);
        private final Log signLog = new Log(MOST_SIGNS);
        private final int[] letters = new int[MOST_WORDS * LONGEST];
        private final int[] lengths = new int[MOST_WORDS];
        /** By word and length: its newest meaning of that length; older ones follow in a chain. */
        private final int[] newest = new int[MOST_WORDS * (LONGEST + 1)];
        private final int[] older = new int[MOST_MEANINGS];
        private final int[] meant = new int[MOST_MEANINGS];
        /** By word and play: the place in the log of signs. */
        private final int[] signPlaces = new int[MOST_WORDS * PLAYS];

        Lexicon() {
            Arrays.fill(newest, NONE);
            Arrays.fill(signPlaces, NONE);
        }

        boolean hasWord(int w) {
            return w >= 0 && w < wordLog.size;
        }

        boolean isKnown(int w, int t) {
            return hasWord(w) && wordLog.days[w] <= t;
        }

        int letterAt(int w, int k) {
            return letters[w * LONGEST + k];
        }

        int addWord(int[] from, int size, int day) {
            if (size < 1 || size > LONGEST || wordLog.isFull()) {
                return NONE;
            }
            for (int k = 0; k < size; k++) {
                if (!isSmallLetter(from[k])) {
                    return NONE;
                }
            }
            if (find(from, 0, size) != NONE) {
                return NONE;
            }
            int w = wordLog.add(0, day);
            lengths[w] = size;
            System.arraycopy(from, 0, letters, w * LONGEST, size);
            return w;
        }

        boolean addMeaning(int a, int b, int day) {
            if (!hasWord(a) || !hasWord(b) || a == b || meaningLog.isFull()) {
                return false;
            }
            if (isMeant(a, b, meaningLog.size)) {
                return false;
            }
            int k = meaningLog.add(a, day);
            int chain = chainOf(a, lengths[b]);
            meant[k] = b;
            older[k] = newest[chain];
            newest[chain] = k;
            return true;
        }

        boolean addSign(int w, int play, int day) {
            if (!hasWord(w) || play < 0 || play >= PLAYS || signLog.isFull()) {
                return false;
            }
            if (signPlaces[w * PLAYS + play] != NONE) {
                return false;
            }
            signPlaces[w * PLAYS + play] = signLog.add(w, day);
            return true;
        }

        /** The plays that a word is a sign of, a bit each, by the first so many signs told. */
        int playsOf(int w, int knownSigns) {
            int plays = 0;
            for (int play = 0; play < PLAYS; play++) {
                int place = signPlaces[w * PLAYS + play];
                if (place != NONE && place < knownSigns) {
                    plays |= 1 << play;
                }
            }
            return plays;
        }

        int chainOf(int w, int length) {
            return w * (LONGEST + 1) + length;
        }

        /** Whether a means b by the first so many meanings told. */
        boolean isMeant(int a, int b, int knownMeanings) {
            int k = newest[chainOf(a, lengths[b])];
            for (int n = 0; n < MOST_MEANINGS && k != NONE; n++) {
                if (meant[k] == b) {
                    return k < knownMeanings;
                }
                k = older[k];
            }
            return false;
        }

        /** The word that these letters spell, or NONE. */
        int find(int[] from, int start, int size) {
            for (int w = 0; w < wordLog.size; w++) {
                if (lengths[w] == size && isSpelled(w, 0, from, start, size)) {
                    return w;
                }
            }
            return NONE;
        }

        /** Whether a word's letters from one of them on are such a run of others; the word has so many. */
        boolean isSpelled(int w, int skipped, int[] from, int start, int size) {
            int base = w * LONGEST + skipped;
            for (int k = 0; k < size; k++) {
                if (letters[base + k] != from[start + k]) {
                    return false;
                }
            }
            return true;
        }
    }

    /** The tellings of the clues. */
    private static final class Clues {
        private final Log log = new Log(MOST_TELLINGS);
        private final int[] words = new int[MOST_TELLINGS * MOST_CLUE_WORDS];
        private final int[] sizes = new int[MOST_TELLINGS];
        /** By clue: 0 as long as it has not been told. */
        private final int[] lengths = new int[MOST_CLUES];
        private int told;

        boolean isTold(int c) {
            return c >= 0 && c < MOST_CLUES && lengths[c] > 0;
        }

        /** How many words the clue has now, or NONE. */
        int tell(int c, int length, int[] from, int size, int day) {
            if (c < 0 || c >= MOST_CLUES || length < 1 || length > LONGEST || log.isFull()) {
                return NONE;
            }
            if (size < LEAST_CLUE_WORDS || size > MOST_CLUE_WORDS || lengths[c] > 0 && lengths[c] != length) {
                return NONE;
            }
            if (lengths[c] == 0) {
                told++;
            }
            lengths[c] = length;
            int telling = log.add(c, day);
            sizes[telling] = size;
            System.arraycopy(from, 0, words, telling * MOST_CLUE_WORDS, size);
            return size;
        }

        /** The telling of a clue that counts as of a day, or NONE. */
        int tellingOf(int c, int t) {
            return isTold(c) ? log.latest(c, t) : NONE;
        }
    }

    /**
     * What is being read: a clue's words as they are known on a day, the answer's letters forwards and
     * backwards, and the aim, the letters that a piece is to make.
     */
    private static final class Sheet {
        private final Lexicon lexicon;
        private final int[] words = new int[MOST_CLUE_WORDS];
        private final int[] plays = new int[MOST_CLUE_WORDS];
        /** The letters of all the words one behind the other, and where each word starts in them. */
        private final int[] text = new int[MOST_CLUE_WORDS * LONGEST];
        private final int[] starts = new int[MOST_CLUE_WORDS + 1];
        private int size;
        private int knownMeanings;
        private final int[] answers = new int[2 * LONGEST];
        private int answerSize;
        private final int[] aim = new int[LONGEST];
        private int aimSize;

        Sheet(Lexicon lexicon) {
            this.lexicon = lexicon;
        }

        void takeClue(Clues clues, int telling, int t) {
            int knownSigns = lexicon.signLog.knownOn(t);
            knownMeanings = lexicon.meaningLog.knownOn(t);
            size = clues.sizes[telling];
            for (int place = 0; place < size; place++) {
                int w = clues.words[telling * MOST_CLUE_WORDS + place];
                int length = lexicon.lengths[w];
                words[place] = w;
                plays[place] = lexicon.playsOf(w, knownSigns);
                System.arraycopy(lexicon.letters, w * LONGEST, text, starts[place], length);
                starts[place + 1] = starts[place] + length;
            }
        }

        void takeAnswer(int w) {
            answerSize = lexicon.lengths[w];
            for (int k = 0; k < answerSize; k++) {
                int letter = lexicon.letterAt(w, k);
                answers[k] = letter;
                answers[LONGEST + answerSize - 1 - k] = letter;
            }
        }

        boolean isSign(int place, int play) {
            return (plays[place] & 1 << play) != 0;
        }

        boolean meansAnswer(int place, int answer) {
            return lexicon.isMeant(words[place], answer, knownMeanings);
        }

        /** Whether words i to j could be one piece, by their signs alone. */
        boolean mayBePiece(int i, int j) {
            if (i == j || ((plays[i] | plays[j]) & END_PLAYS) != 0) {
                return true;
            }
            return j - i >= 2 && (isSign(j - 1, IN) || isSign(i + 1, ABOUT));
        }

        /** The aim is the answer's letters a to b (backwards on side 1) without those from p to q. */
        void aimAt(int side, int a, int p, int q, int b) {
            int base = side * LONGEST;
            aimSize = 0;
            for (int k = a; k < b; k++) {
                if (k < p || k >= q) {
                    aim[aimSize] = answers[base + k];
                    aimSize++;
                }
            }
        }

        /** Whether the word's letters are the aim, with so many more ahead of it and behind it. */
        boolean isOwn(int place, int ahead, int behind) {
            int w = words[place];
            return lexicon.lengths[w] == ahead + aimSize + behind && lexicon.isSpelled(w, ahead, aim, 0, aimSize);
        }

        /** How many words that the word means are the aim, with so many letters more ahead of it and behind it. */
        int countMeant(int place, int ahead, int behind) {
            int length = ahead + aimSize + behind;
            if (length > LONGEST) {
                return 0;
            }
            int found = 0;
            int k = lexicon.newest[lexicon.chainOf(words[place], length)];
            for (int n = 0; n < MOST_MEANINGS && k != NONE; n++) {
                if (k < knownMeanings && lexicon.isSpelled(lexicon.meant[k], ahead, aim, 0, aimSize)) {
                    found++;
                }
                k = lexicon.older[k];
            }
            return found;
        }

        boolean isShuffled(int from, int to) {
            int base = starts[from];
            if (starts[to + 1] - base != aimSize) {
                return false;
            }
            boolean moved = false;
            long low = 0;
            long high = 0;
            for (int k = 0; k < aimSize; k++) {
                moved |= text[base + k] != aim[k];
                low += lowTally(text[base + k]) - lowTally(aim[k]);
                high += highTally(text[base + k]) - highTally(aim[k]);
            }
            return moved && low == 0 && high == 0;
        }

        /** Four bits a letter hold any number up to the ten letters of a word. */
        private long lowTally(int letter) {
            return letter < 'n' ? 1L << 4 * (letter - 'a') : 0L;
        }

        private long highTally(int letter) {
            return letter < 'n' ? 0L : 1L << 4 * (letter - 'n');
        }

        boolean isHeads(int from, int to) {
            if (to - from + 1 != aimSize) {
                return false;
            }
            for (int k = 0; k < aimSize; k++) {
                if (text[starts[from + k]] != aim[k]) {
                    return false;
                }
            }
            return true;
        }

        boolean isTails(int from, int to) {
            if (to - from + 1 != aimSize) {
                return false;
            }
            for (int k = 0; k < aimSize; k++) {
                if (text[starts[from + k + 1] - 1] != aim[k]) {
                    return false;
                }
            }
            return true;
        }

        boolean isHidden(int from, int to) {
            if (from >= to) {
                return false;
            }
            int second = starts[from + 1];
            int inFirst = second - starts[from];
            int inLast = starts[to + 1] - starts[to];
            int between = starts[to] - second;
            for (int ahead = 1; ahead < inFirst; ahead++) {
                int behind = aimSize - between - ahead;
                if (behind >= 1 && behind < inLast && standsAt(second - ahead)) {
                    return true;
                }
            }
            return false;
        }

        private boolean standsAt(int start) {
            for (int k = 0; k < aimSize; k++) {
                if (text[start + k] != aim[k]) {
                    return false;
                }
            }
            return true;
        }
    }

    /**
     * What rows and pieces of a clue make: for each place (words i to j, letters a to b, forwards or
     * backwards) the number of ways, the least cost and, of like costs, the least name. A name is
     * held as five bits a symbol, so that numbers compare as the names' bytes do.
     */
    private static final class Memo {
        private final int[] stamps = new int[PLACES];
        private final int[] ways = new int[PLACES];
        private final int[] costs = new int[PLACES];
        private final long[] names = new long[PLACES * NAME_LONGS];
        private final long[] draft = new long[NAME_LONGS];
        private int draftSize;
        private int stamp;
        private int limit;
        private boolean naming;

        /** All places are new; ways are counted to the limit, names are made only if they are asked for. */
        void restart(int most, boolean named) {
            stamp++;
            limit = most;
            naming = named;
            open(WHOLE);
            open(NOWHERE);
        }

        int placeOf(int table, int i, int j, int a, int b) {
            int wordSpan = j * (j + 1) / 2 + i;
            int letterSpan = b * (b - 1) / 2 + a;
            return (table * WORD_SPANS + wordSpan) * LETTER_SPANS + letterSpan;
        }

        boolean isOpen(int place) {
            return stamps[place] == stamp;
        }

        void open(int place) {
            stamps[place] = stamp;
            ways[place] = 0;
            costs[place] = NO_COST;
        }

        boolean hasEnough(int place) {
            return !naming && ways[place] >= limit;
        }

        /** Counts ways in; true if their name is to be drafted, as nothing cheaper stands there. */
        boolean offer(int place, int more, int cost) {
            ways[place] = Math.min(limit, ways[place] + more);
            if (!naming || cost > costs[place]) {
                return false;
            }
            draftSize = 0;
            Arrays.fill(draft, 0L);
            return true;
        }

        void put(int symbol) {
            if (draftSize < LONGEST_NAME) {
                int shift = TOP_SHIFT - SYMBOL_BITS * (draftSize % SYMBOLS_A_LONG);
                draft[draftSize / SYMBOLS_A_LONG] |= (long) symbol << shift;
                draftSize++;
            }
        }

        void putWord(int symbol, int word) {
            put(symbol);
            put(FIRST_WORD + word);
        }

        /** A link's name, if there is a link. */
        void putLink(int link) {
            if (link != NONE) {
                putWord(PLAY_SYMBOLS[LINK], link);
            }
        }

        void putName(int place) {
            for (int k = 0; k < LONGEST_NAME; k++) {
                int symbol = symbolAt(place, k);
                if (symbol == 0) {
                    return;
                }
                put(symbol);
            }
        }

        int symbolAt(int place, int k) {
            int shift = TOP_SHIFT - SYMBOL_BITS * (k % SYMBOLS_A_LONG);
            return (int) (names[place * NAME_LONGS + k / SYMBOLS_A_LONG] >>> shift) & 31;
        }

        /** The draft becomes the place's name, unless one that is no worse stands there. */
        void keep(int place, int cost) {
            if (cost < costs[place] || cost == costs[place] && isDraftLess(place)) {
                costs[place] = cost;
                System.arraycopy(draft, 0, names, place * NAME_LONGS, NAME_LONGS);
            }
        }

        private boolean isDraftLess(int place) {
            for (int k = 0; k < NAME_LONGS; k++) {
                long held = names[place * NAME_LONGS + k];
                if (draft[k] != held) {
                    return draft[k] < held;
                }
            }
            return false;
        }
    }

    /**
     * Reads a clue. Rows and pieces of the same words never have names of which one starts another,
     * as each names every word once; so the least name of a whole is made of the least names of its parts.
     */
    private static final class Reader {
        private final Sheet sheet;
        private final Memo memo = new Memo();

        Reader(Lexicon lexicon) {
            sheet = new Sheet(lexicon);
        }

        void takeClue(Clues clues, int telling, int t) {
            sheet.takeClue(clues, telling, t);
        }

        /** How many readings the clue has by an answer of its length, counted to a limit. */
        int readBy(int answer, int limit, boolean naming) {
            memo.restart(limit, naming);
            int last = sheet.size - 1;
            if (last < 1) {
                return 0;
            }
            boolean front = sheet.meansAnswer(0, answer);
            boolean back = sheet.meansAnswer(last, answer);
            if (!front && !back) {
                return 0;
            }
            sheet.takeAnswer(answer);
            if (front && back) {
                addTwo(last);
            }
            if (front) {
                addFront(NONE, rowOf(0, 1, last, 0, sheet.answerSize, 0));
            }
            if (front && last >= 2 && sheet.isSign(1, LINK) && !memo.hasEnough(WHOLE)) {
                addFront(1, rowOf(0, 2, last, 0, sheet.answerSize, 0));
            }
            if (back && !memo.hasEnough(WHOLE)) {
                addBack(NONE, rowOf(0, 0, last - 1, 0, sheet.answerSize, 0));
            }
            if (back && last >= 2 && sheet.isSign(last - 1, LINK) && !memo.hasEnough(WHOLE)) {
                addBack(last - 1, rowOf(0, 0, last - 2, 0, sheet.answerSize, 0));
            }
            return memo.ways[WHOLE];
        }

        int leastCost() {
            return memo.costs[WHOLE];
        }

        /** Writes the best reading's name; how long it is. */
        int writeName(int[] into) {
            int size = 0;
            while (size < LONGEST_NAME && size < into.length && memo.symbolAt(WHOLE, size) != 0) {
                into[size] = SYMBOLS.charAt(memo.symbolAt(WHOLE, size));
                size++;
            }
            return size;
        }

        private void addTwo(int last) {
            if (last > 2 || last == 2 && !sheet.isSign(1, LINK)) {
                return;
            }
            int cost = 2 * MEANING_COST;
            if (memo.offer(WHOLE, 1, cost)) {
                memo.putWord(MEANING_SYMBOL, 0);
                memo.putLink(last == 2 ? 1 : NONE);
                memo.put(EQUALS);
                memo.putWord(MEANING_SYMBOL, last);
                memo.keep(WHOLE, cost);
            }
        }

        private void addFront(int link, int row) {
            int cost = MEANING_COST + memo.costs[row];
            if (memo.ways[row] > 0 && memo.offer(WHOLE, memo.ways[row], cost)) {
                memo.putWord(MEANING_SYMBOL, 0);
                memo.put(EQUALS);
                memo.putLink(link);
                memo.putName(row);
                memo.keep(WHOLE, cost);
            }
        }

        private void addBack(int link, int row) {
            int cost = MEANING_COST + memo.costs[row];
            if (memo.ways[row] > 0 && memo.offer(WHOLE, memo.ways[row], cost)) {
                memo.putName(row);
                memo.putLink(link);
                memo.put(EQUALS);
                memo.putWord(MEANING_SYMBOL, sheet.size - 1);
                memo.keep(WHOLE, cost);
            }
        }

        /** The place of words i to j as a row that makes the letters a to b of a side of the answer. */
        private int rowOf(int side, int i, int j, int a, int b, int depth) {
            if (i > j || a >= b || depth > DEEPEST) {
                return NOWHERE;
            }
            int place = memo.placeOf(side, i, j, a, b);
            if (memo.isOpen(place)) {
                return place;
            }
            memo.open(place);
            if (sheet.mayBePiece(i, j)) {
                addAlone(place, pieceOf(side, i, j, a, b, depth + 1));
            }
            for (int k = i; k < j && !memo.hasEnough(place); k++) {
                for (int c = a + 1; c < b && sheet.mayBePiece(i, k) && !memo.hasEnough(place); c++) {
                    int piece = pieceOf(side, i, k, a, c, depth + 1);
                    if (memo.ways[piece] == 0) {
                        continue;
                    }
                    addJoined(place, piece, NONE, rowOf(side, k + 1, j, c, b, depth + 1));
                    if (sheet.isSign(k + 1, LINK)) {
                        addJoined(place, piece, k + 1, rowOf(side, k + 2, j, c, b, depth + 1));
                    }
                }
            }
            return place;
        }

        private void addAlone(int place, int piece) {
            int cost = memo.costs[piece];
            if (memo.ways[piece] > 0 && memo.offer(place, memo.ways[piece], cost)) {
                memo.putName(piece);
                memo.keep(place, cost);
            }
        }

        private void addJoined(int place, int piece, int link, int row) {
            int ways = memo.ways[piece] * memo.ways[row];
            int cost = memo.costs[piece] + memo.costs[row];
            if (ways > 0 && memo.offer(place, ways, cost)) {
                memo.putName(piece);
                memo.putLink(link);
                memo.putName(row);
                memo.keep(place, cost);
            }
        }

        /** The place of words i to j as one piece that makes the letters a to b of a side of the answer. */
        private int pieceOf(int side, int i, int j, int a, int b, int depth) {
            if (i > j || a >= b || depth > DEEPEST) {
                return NOWHERE;
            }
            int place = memo.placeOf(PIECES + side, i, j, a, b);
            if (memo.isOpen(place)) {
                return place;
            }
            memo.open(place);
            sheet.aimAt(side, a, b, b, b);
            if (i == j) {
                addPlain(place, i);
                return place;
            }
            addSigned(place, i, i + 1, j);
            addSigned(place, j, i, j - 1);
            int turnedA = sheet.answerSize - b;
            int turnedB = sheet.answerSize - a;
            if (sheet.isSign(i, TURN)) {
                addTurned(place, i, rowOf(1 - side, i + 1, j, turnedA, turnedB, depth + 1));
            }
            if (sheet.isSign(j, TURN)) {
                addTurned(place, j, rowOf(1 - side, i, j - 1, turnedA, turnedB, depth + 1));
            }
            if (j - i >= 2 && sheet.isSign(j - 1, IN)) {
                addPutIn(side, i, j, a, b, IN, depth);
            }
            if (j - i >= 2 && sheet.isSign(i + 1, ABOUT)) {
                addPutIn(side, i, j, a, b, ABOUT, depth);
            }
            return place;
        }

        private void addPlain(int place, int word) {
            if (sheet.isOwn(word, 0, 0) && memo.offer(place, 1, LETTERS_COST)) {
                memo.putWord(LETTERS_SYMBOL, word);
                memo.keep(place, LETTERS_COST);
            }
            int meant = sheet.countMeant(word, 0, 0);
            if (meant > 0 && memo.offer(place, meant, MEANING_COST)) {
                memo.putWord(MEANING_SYMBOL, word);
                memo.keep(place, MEANING_COST);
            }
        }

        /** The plays by a sign at an end that need no row; the aim is set. */
        private void addSigned(int place, int sign, int from, int to) {
            if (sheet.isSign(sign, SHUFFLE) && sheet.isShuffled(from, to)) {
                addSpread(place, SHUFFLE, sign, from, to);
            }
            if (sheet.isSign(sign, HEADS) && sheet.isHeads(from, to)) {
                addSpread(place, HEADS, sign, from, to);
            }
            if (sheet.isSign(sign, TAILS) && sheet.isTails(from, to)) {
                addSpread(place, TAILS, sign, from, to);
            }
            if (sheet.isSign(sign, HIDDEN) && sheet.isHidden(from, to)) {
                addSpread(place, HIDDEN, sign, from, to);
            }
            if (from == to && sheet.isSign(sign, BEHEAD)) {
                addCut(place, BEHEAD, sign, from, LETTERS_SYMBOL, sheet.isOwn(from, 1, 0) ? 1 : 0);
                addCut(place, BEHEAD, sign, from, MEANING_SYMBOL, sheet.countMeant(from, 1, 0));
            }
            if (from == to && sheet.isSign(sign, CURTAIL)) {
                addCut(place, CURTAIL, sign, from, LETTERS_SYMBOL, sheet.isOwn(from, 0, 1) ? 1 : 0);
                addCut(place, CURTAIL, sign, from, MEANING_SYMBOL, sheet.countMeant(from, 0, 1));
            }
        }

        private void addSpread(int place, int play, int sign, int from, int to) {
            if (memo.offer(place, 1, SIGN_COST)) {
                memo.putWord(PLAY_SYMBOLS[play], sign);
                memo.put(OPENED);
                for (int word = from; word <= to; word++) {
                    memo.put(FIRST_WORD + word);
                }
                memo.put(CLOSED);
                memo.keep(place, SIGN_COST);
            }
        }

        private void addCut(int place, int play, int sign, int word, int how, int ways) {
            int cost = SIGN_COST + costOf(how);
            if (ways > 0 && memo.offer(place, ways, cost)) {
                memo.putWord(PLAY_SYMBOLS[play], sign);
                memo.put(OPENED);
                memo.putWord(how, word);
                memo.put(CLOSED);
                memo.keep(place, cost);
            }
        }

        private int costOf(int how) {
            return how == LETTERS_SYMBOL ? LETTERS_COST : MEANING_COST;
        }

        private void addTurned(int place, int sign, int row) {
            int cost = SIGN_COST + memo.costs[row];
            if (memo.ways[row] > 0 && memo.offer(place, memo.ways[row], cost)) {
                memo.putWord(PLAY_SYMBOLS[TURN], sign);
                memo.put(OPENED);
                memo.putName(row);
                memo.put(CLOSED);
                memo.keep(place, cost);
            }
        }

        /** IN has what is around as its last word, ABOUT as its first one; the letters p to q are within. */
        private void addPutIn(int side, int i, int j, int a, int b, int play, int depth) {
            int place = memo.placeOf(PIECES + side, i, j, a, b);
            int around = play == IN ? j : i;
            int first = play == IN ? i : i + 2;
            int last = play == IN ? j - 2 : j;
            for (int p = a + 1; p < b - 1 && !memo.hasEnough(place); p++) {
                for (int q = p + 1; q < b && !memo.hasEnough(place); q++) {
                    sheet.aimAt(side, a, p, q, b);
                    boolean own = sheet.isOwn(around, 0, 0);
                    int meant = sheet.countMeant(around, 0, 0);
                    if (!own && meant == 0) {
                        continue;
                    }
                    int row = rowOf(side, first, last, p, q, depth + 1);
                    if (own) {
                        addAround(place, play, row, p - a, LETTERS_SYMBOL, around);
                    }
                    if (meant > 0) {
                        addAround(place, play, row, p - a, MEANING_SYMBOL, around);
                    }
                }
            }
        }

        private void addAround(int place, int play, int row, int ahead, int how, int around) {
            int cost = SIGN_COST + memo.costs[row] + costOf(how);
            if (memo.ways[row] > 0 && memo.offer(place, memo.ways[row], cost)) {
                memo.putWord(PLAY_SYMBOLS[play], play == IN ? around - 1 : around + 1);
                memo.put(OPENED);
                memo.putName(row);
                memo.put(CLOSED);
                memo.put(DIGITS + ahead);
                memo.putWord(how, around);
                memo.keep(place, cost);
            }
        }
    }

    /**
     * The words possible for each clue. The latest list of a clue stays as long as its telling and
     * the meanings and signs known are the same, whatever day is asked for.
     */
    private static final class Possibles {
        private final Lexicon lexicon;
        private final Clues clues;
        private final Reader reader;
        private final int[] words = new int[MOST_CLUES * MOST_WORDS];
        private final int[] sizes = new int[MOST_CLUES];
        private final int[] tellings = new int[MOST_CLUES];
        private final int[] meanings = new int[MOST_CLUES];
        private final int[] signs = new int[MOST_CLUES];

        Possibles(Lexicon lexicon, Clues clues, Reader reader) {
            this.lexicon = lexicon;
            this.clues = clues;
            this.reader = reader;
            Arrays.fill(tellings, NONE);
        }

        /** Makes the list of a clue as of a day; false, and an empty list, if the clue is not known then. */
        boolean recall(int c, int t) {
            int telling = clues.tellingOf(c, t);
            int knownMeanings = lexicon.meaningLog.knownOn(t);
            int knownSigns = lexicon.signLog.knownOn(t);
            if (telling == tellings[c] && knownMeanings == meanings[c] && knownSigns == signs[c]) {
                return telling != NONE;
            }
            tellings[c] = telling;
            meanings[c] = knownMeanings;
            signs[c] = knownSigns;
            sizes[c] = 0;
            if (telling == NONE) {
                return false;
            }
            reader.takeClue(clues, telling, t);
            for (int w = 0; w < lexicon.wordLog.size; w++) {
                if (lexicon.lengths[w] == clues.lengths[c] && reader.readBy(w, 1, false) > 0) {
                    words[c * MOST_WORDS + sizes[c]] = w;
                    sizes[c]++;
                }
            }
            return true;
        }

        /** Makes the lists of all lights, of which clues that are not known then have empty ones. */
        void recallLights(Grid grid, int t) {
            for (int c = 0; c < MOST_CLUES; c++) {
                if (grid.hasLight(c)) {
                    recall(c, t);
                }
            }
        }

        int wordAt(int c, int k) {
            return words[c * MOST_WORDS + k];
        }

        boolean has(int c, int w) {
            for (int k = 0; k < sizes[c]; k++) {
                if (wordAt(c, k) == w) {
                    return true;
                }
            }
            return false;
        }
    }

    /** The lights, where they cross, what is entered in their cells, and their solutions. */
    private static final class Grid {
        private final int[] firsts = new int[MOST_CLUES];
        private final int[] steps = new int[MOST_CLUES];
        /** By clue: 0 as long as it has no light. */
        private final int[] lengths = new int[MOST_CLUES];
        private final int[] across = new int[CELLS];
        private final int[] down = new int[CELLS];
        private final int[] entered = new int[CELLS];
        /** By a light and another: which of the light's cells is in the other too; two share one at most. */
        private final int[] crossings = new int[MOST_CLUES * MOST_CLUES];
        private final Log solutionLog = new Log(MOST_SOLUTIONS);
        private final int[] solutions = new int[MOST_SOLUTIONS];
        private int lights;
        private int letters;

        Grid() {
            Arrays.fill(across, NONE);
            Arrays.fill(down, NONE);
            Arrays.fill(crossings, NONE);
        }

        boolean hasLight(int c) {
            return c >= 0 && c < MOST_CLUES && lengths[c] > 0;
        }

        boolean isCell(int row, int column) {
            return row >= 0 && row < SIDE && column >= 0 && column < SIDE;
        }

        boolean isLit(int row, int column) {
            if (!isCell(row, column)) {
                return false;
            }
            int cell = row * SIDE + column;
            return across[cell] != NONE || down[cell] != NONE;
        }

        boolean addLight(int c, int row, int column, boolean goesDown, int length) {
            if (hasLight(c) || !isCell(row, column) || (goesDown ? row : column) + length > SIDE) {
                return false;
            }
            int[] alike = goesDown ? down : across;
            int first = row * SIDE + column;
            int step = goesDown ? SIDE : 1;
            for (int k = 0; k < length; k++) {
                if (alike[first + k * step] != NONE) {
                    return false;
                }
            }
            firsts[c] = first;
            steps[c] = step;
            lengths[c] = length;
            lights++;
            letters += length;
            for (int k = 0; k < length; k++) {
                alike[first + k * step] = c;
                cross(c, k, goesDown ? across : down);
            }
            return true;
        }

        private void cross(int c, int k, int[] others) {
            int cell = cellOf(c, k);
            int other = others[cell];
            if (other != NONE && steps[other] != 0) {
                crossings[c * MOST_CLUES + other] = k;
                crossings[other * MOST_CLUES + c] = (cell - firsts[other]) / steps[other];
            }
        }

        int cellOf(int c, int k) {
            return firsts[c] + k * steps[c];
        }

        /** Which of a light's cells is in another light too, or NONE. */
        int crossingOf(int c, int other) {
            return crossings[c * MOST_CLUES + other];
        }

        boolean addSolution(int c, int w, int day) {
            int k = solutionLog.add(c, day);
            if (k == NONE) {
                return false;
            }
            solutions[k] = w;
            return true;
        }

        /** The solution of a light as of a day, or NONE. */
        int solutionOf(int c, int t) {
            int k = solutionLog.latest(c, t);
            return k == NONE ? NONE : solutions[k];
        }
    }

    /** What a solver finds by the lists of what is possible: what is left, what to enter, the ways to fill all. */
    private static final class Solver {
        private final Lexicon lexicon;
        private final Possibles possibles;
        private final Grid grid;
        private final int[] words = new int[MOST_CLUES * MOST_WORDS];
        private final int[] sizes = new int[MOST_CLUES];
        private final int[] chosen = new int[MOST_CLUES];
        private final int[] first = new int[MOST_CLUES];
        /** The first filling of the latest call that told any. */
        private final int[] told = new int[MOST_CLUES];
        private int ways;
        private int tries;

        Solver(Lexicon lexicon, Possibles possibles, Grid grid) {
            this.lexicon = lexicon;
            this.possibles = possibles;
            this.grid = grid;
            Arrays.fill(told, NONE);
        }

        /** Words go until none has to: each round but the last takes one at least. */
        void settle() {
            for (int c = 0; c < MOST_CLUES; c++) {
                takePossible(c);
            }
            boolean changed = true;
            for (int round = 0; changed && round <= MOST_CLUES * MOST_WORDS; round++) {
                changed = false;
                for (int c = 0; c < MOST_CLUES; c++) {
                    changed |= checkAll(c);
                }
            }
        }

        private void takePossible(int c) {
            sizes[c] = 0;
            for (int k = 0; grid.hasLight(c) && k < possibles.sizes[c]; k++) {
                int w = possibles.wordAt(c, k);
                if (agrees(c, w)) {
                    words[c * MOST_WORDS + sizes[c]] = w;
                    sizes[c]++;
                }
            }
        }

        private boolean agrees(int c, int w) {
            for (int k = 0; k < grid.lengths[c]; k++) {
                int letter = grid.entered[grid.cellOf(c, k)];
                if (letter != 0 && letter != lexicon.letterAt(w, k) - 'a' + 1) {
                    return false;
                }
            }
            return true;
        }

        private boolean checkAll(int c) {
            boolean changed = false;
            for (int other = 0; other < MOST_CLUES; other++) {
                if (grid.crossingOf(c, other) != NONE) {
                    changed |= check(c, grid.crossingOf(c, other), lettersLeft(other, grid.crossingOf(other, c)));
                }
            }
            return changed;
        }

        /** The letters that the words left have at one of their places, a bit each. */
        private int lettersLeft(int c, int k) {
            int seen = 0;
            for (int n = 0; n < sizes[c]; n++) {
                seen |= 1 << lexicon.letterAt(words[c * MOST_WORDS + n], k) - 'a';
            }
            return seen;
        }

        private boolean check(int c, int k, int allowed) {
            int stay = 0;
            for (int n = 0; n < sizes[c]; n++) {
                int w = words[c * MOST_WORDS + n];
                if ((allowed & 1 << lexicon.letterAt(w, k) - 'a') != 0) {
                    words[c * MOST_WORDS + stay] = w;
                    stay++;
                }
            }
            boolean changed = stay < sizes[c];
            sizes[c] = stay;
            return changed;
        }

        int nextOne() {
            for (int c = 0; c < MOST_CLUES; c++) {
                if (isNext(c)) {
                    return c;
                }
            }
            return NONE;
        }

        private boolean isNext(int c) {
            if (sizes[c] != 1) {
                return false;
            }
            for (int k = 0; k < grid.lengths[c]; k++) {
                if (grid.entered[grid.cellOf(c, k)] == 0) {
                    return true;
                }
            }
            return false;
        }

        /**
         * Enters light by light. What is left stays the same while the only words left are entered,
         * as every crossing word agrees with them; so one settling and one pass by numbers do.
         */
        int enterAll() {
            int done = 0;
            for (int c = 0; c < MOST_CLUES; c++) {
                if (isNext(c)) {
                    enterWord(c, words[c * MOST_WORDS]);
                    done++;
                }
            }
            return done;
        }

        private void enterWord(int c, int w) {
            for (int k = 0; k < grid.lengths[c]; k++) {
                grid.entered[grid.cellOf(c, k)] = lexicon.letterAt(w, k) - 'a' + 1;
            }
        }

        int fillAll() {
            if (grid.lights == 0) {
                return 0;
            }
            ways = 0;
            tries = 0;
            Arrays.fill(chosen, NONE);
            fillFrom(0);
            if (tries > MOST_TRIES) {
                return GIVEN_UP;
            }
            if (ways > 0) {
                System.arraycopy(first, 0, told, 0, MOST_CLUES);
            }
            return ways;
        }

        private void fillFrom(int c) {
            if (c >= MOST_CLUES) {
                noteWay();
                return;
            }
            if (!grid.hasLight(c)) {
                fillFrom(c + 1);
                return;
            }
            for (int k = 0; k < possibles.sizes[c] && ways < MOST_FILLINGS && tries <= MOST_TRIES; k++) {
                tries++;
                chosen[c] = possibles.wordAt(c, k);
                if (tries <= MOST_TRIES && fits(c)) {
                    fillFrom(c + 1);
                }
            }
        }

        private void noteWay() {
            if (ways == 0) {
                System.arraycopy(chosen, 0, first, 0, MOST_CLUES);
            }
            ways++;
        }

        private boolean fits(int c) {
            for (int other = 0; other < c; other++) {
                int k = grid.crossingOf(c, other);
                if (k != NONE && lexicon.letterAt(chosen[c], k)
                        != lexicon.letterAt(chosen[other], grid.crossingOf(other, c))) {
                    return false;
                }
            }
            return true;
        }
    }

    /** Tells what is unfair. */
    private static final class Critic {
        private final Lexicon lexicon;
        private final Possibles possibles;
        private final Grid grid;
        private final int[] kinds = new int[MOST_CLUES * KINDS];
        private final int[] lights = new int[MOST_CLUES * KINDS];
        private int size;

        Critic(Lexicon lexicon, Possibles possibles, Grid grid) {
            this.lexicon = lexicon;
            this.possibles = possibles;
            this.grid = grid;
        }

        int reviewAll(int t) {
            size = 0;
            for (int c = 0; c < MOST_CLUES; c++) {
                if (grid.hasLight(c)) {
                    review(c, t);
                }
            }
            return size;
        }

        private void review(int c, int t) {
            int solution = grid.solutionOf(c, t);
            boolean solved = solution != NONE;
            noteIf(!solved, 1, c);
            noteIf(solved && !possibles.has(c, solution), 2, c);
            noteIf(solved && hasRival(c, solution), 3, c);
            noteIf(2 * crossed(c) < grid.lengths[c], 4, c);
            noteIf(solved && clashes(c, solution, t), 5, c);
        }

        private void noteIf(boolean unfair, int kind, int c) {
            if (unfair && size < kinds.length) {
                kinds[size] = kind;
                lights[size] = c;
                size++;
            }
        }

        private boolean hasRival(int c, int solution) {
            for (int k = 0; k < possibles.sizes[c]; k++) {
                int w = possibles.wordAt(c, k);
                if (w != solution && isAlikeWhereCrossed(c, w, solution)) {
                    return true;
                }
            }
            return false;
        }

        private boolean isAlikeWhereCrossed(int c, int w, int solution) {
            for (int other = 0; other < MOST_CLUES; other++) {
                int k = grid.crossingOf(c, other);
                if (k != NONE && lexicon.letterAt(w, k) != lexicon.letterAt(solution, k)) {
                    return false;
                }
            }
            return true;
        }

        private int crossed(int c) {
            int found = 0;
            for (int other = 0; other < MOST_CLUES; other++) {
                if (grid.crossingOf(c, other) != NONE) {
                    found++;
                }
            }
            return found;
        }

        private boolean clashes(int c, int solution, int t) {
            for (int other = 0; other < MOST_CLUES; other++) {
                int k = grid.crossingOf(c, other);
                int theirs = k == NONE ? NONE : grid.solutionOf(other, t);
                if (theirs != NONE && lexicon.letterAt(solution, k)
                        != lexicon.letterAt(theirs, grid.crossingOf(other, c))) {
                    return true;
                }
            }
            return false;
        }
    }

    /** The grids sent in. */
    private static final class Post {
        private final Lexicon lexicon;
        private final Possibles possibles;
        private final Grid grid;
        private final Log log = new Log(MOST_GRIDS);
        private final int[] letters = new int[MOST_GRIDS * MOST_SENT_LETTERS];
        private final int[] sizes = new int[MOST_GRIDS];
        /** Where each light's letters start in the grid that is looked at. */
        private final int[] starts = new int[MOST_CLUES];

        Post(Lexicon lexicon, Possibles possibles, Grid grid) {
            this.lexicon = lexicon;
            this.possibles = possibles;
            this.grid = grid;
        }

        int addGrid(int[] from, int size, int day) {
            if (log.isFull() || grid.lights == 0 || size != grid.letters || size > MOST_SENT_LETTERS) {
                return NONE;
            }
            for (int k = 0; k < size; k++) {
                if (!isSmallLetter(from[k])) {
                    return NONE;
                }
            }
            int g = log.add(0, day);
            sizes[g] = size;
            System.arraycopy(from, 0, letters, g * MOST_SENT_LETTERS, size);
            return g;
        }

        boolean isRight(int g, int t) {
            if (log.days[g] > t || sizes[g] != grid.letters) {
                return false;
            }
            placeStarts(g);
            for (int c = 0; c < MOST_CLUES; c++) {
                if (grid.hasLight(c) && !(isAlikeWhereCrossed(c) && isAnswered(c, t))) {
                    return false;
                }
            }
            return true;
        }

        /** A grid with as many letters as the lights have now was sent for just these lights, as none ever goes. */
        private void placeStarts(int g) {
            int start = g * MOST_SENT_LETTERS;
            for (int c = 0; c < MOST_CLUES; c++) {
                starts[c] = start;
                start += grid.lengths[c];
            }
        }

        private boolean isAlikeWhereCrossed(int c) {
            for (int other = 0; other < c; other++) {
                int k = grid.crossingOf(c, other);
                if (k != NONE && letters[starts[c] + k] != letters[starts[other] + grid.crossingOf(other, c)]) {
                    return false;
                }
            }
            return true;
        }

        private boolean isAnswered(int c, int t) {
            int w = lexicon.find(letters, starts[c], grid.lengths[c]);
            return w != NONE && (w == grid.solutionOf(c, t) || possibles.has(c, w));
        }
    }

    private static boolean isSmallLetter(int letter) {
        return letter >= 'a' && letter <= 'z';
    }
}
