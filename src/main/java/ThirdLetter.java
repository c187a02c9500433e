/**
 * Voices that say a sermon together, letter by letter, each its turn, and what a listener can make of it.
 * The document's promises 1 to 26 are the public methods, in their order; each first refuses, then asks one
 * of the small classes below.
 */
public final class ThirdLetter {
    public static final int NONE = -1, UNKNOWN = -2, OUTSIDE = -3, NOT = -4, FULL = -5;

    private static final int MOST_VOICES = 5;
    private static final int FIRST_VOICES = 3;
    private static final int MOST_LATE = 3;
    private static final int MOST_WORDS = 12;
    private static final int MOST_LETTERS = 10;
    private static final int SORTS = 3;
    private static final int ALL_MAY_FOLLOW = 511;
    private static final int MOST_BYTES = 200;
    private static final int MOST_PACKED = 8;
    private static final int MOST_LINES = 12;
    private static final int SERMON_WORDS = 6;
    private static final int SERMON_LETTERS = 60;
    private static final int SHELVES = 2;
    private static final int HOLE = 0;
    private static final int LAST_LETTER = 26;
    private static final int TWIN_BASE = 20;
    private static final int LATE_BASE = 4;

    private final Script script = new Script();
    private final Told told = new Told();
    private final Told draft = new Told();
    private final Reader reader = new Reader(script, draft);
    private final Sermon sermon = new Sermon();
    private final Sermon keptFirst = new Sermon();
    private final Sermon keptSecond = new Sermon();
    private int keptBits;
    private final Sound row = new Sound();
    private final Foretelling foretelling = new Foretelling(told.list, row);
    private final Likeness likeness = new Likeness(told);
    private final Seating seating = new Seating(told);

    public ThirdLetter() {
        keptBits = 0;
    }

    // ---- what is told

    public int write(long bytes, int n) {
        if (n < 1 || n > MOST_PACKED) return OUTSIDE;
        if (!script.hasRoom(n)) return FULL;
        script.append(bytes, n);
        return script.length();
    }

    public int erase() {
        return script.makeEmpty();
    }

    public int fault() {
        draft.copyFrom(told);
        return reader.readToFault();
    }

    public int order() {
        // The draft takes what the lines do, so that a text with a fault leaves what is told untouched.
        draft.copyFrom(told);
        if (reader.readToFault() != NONE) return NOT;
        told.copyFrom(draft);
        script.makeEmpty();
        sermon.makeEmpty();
        row.makeEmpty();
        keptBits = 0;
        return reader.linesRead();
    }

    public int word(int word, int what) {
        if (!told.list.has(word)) return UNKNOWN;
        if (what == 0) return told.list.lengthOf(word);
        if (what == 1) return told.list.sortOf(word);
        if (what < 10 || what >= 10 + MOST_LETTERS) return OUTSIDE;
        return told.list.letterOf(word, what - 10);
    }

    public int voice(int voice, int what) {
        if (!told.choir.has(voice)) return UNKNOWN;
        switch (what) {
            case 0: return told.choir.isAway(voice) ? 1 : 0;
            case 1: return told.choir.isHoarse(voice) ? 1 : 0;
            case 2: return told.choir.lateOf(voice);
            case 3: return sermon.lettersSaidBy(voice, told.choir);
            default: return OUTSIDE;
        }
    }

    // ---- a sermon

    public int preach(int word) {
        if (!told.list.has(word)) return UNKNOWN;
        int last = sermon.lastWord();
        if (last != NONE && !told.list.mayFollow(told.list.sortOf(last), told.list.sortOf(word))) return NOT;
        if (!sermon.hasRoom(told.list.lengthOf(word))) return FULL;
        sermon.append(word, told.list);
        return sermon.letterTotal();
    }

    public int amen() {
        int had = sermon.wordTotal();
        sermon.makeEmpty();
        return had;
    }

    public int say(int n) {
        if (n < 1 || n > SERMON_LETTERS) return OUTSIDE;
        sermon.sayMore(n);
        return sermon.saidTotal();
    }

    public int heard(int i) {
        if (i < 0) return OUTSIDE;
        if (i >= sermon.saidTotal()) return NONE;
        return sermon.heardAt(i, told.choir);
    }

    public int tally(int what) {
        switch (what) {
            case 0: return sermon.saidTotal() - sermon.lettersHeard(told.choir);
            case 1: return sermon.lettersHeard(told.choir);
            case 2: return sermon.saidTotal() < sermon.letterTotal() ? told.choir.voiceOf(sermon.saidTotal()) : NONE;
            default: return OUTSIDE;
        }
    }

    // ---- what was heard

    public int sound(int letter) {
        if (letter < HOLE || letter > LAST_LETTER) return OUTSIDE;
        if (row.isFull()) return FULL;
        row.append(letter);
        return row.length();
    }

    public int listen() {
        row.makeEmpty();
        for (int i = 0; i < sermon.saidTotal(); i++) row.append(sermon.heardAt(i, told.choir));
        return row.length();
    }

    public int hush() {
        return row.makeEmpty();
    }

    public int fits(int word, int from) {
        if (!told.list.has(word)) return UNKNOWN;
        if (from < 0 || from > row.length()) return OUTSIDE;
        return row.isFitting(told.list, word, from) ? 1 : 0;
    }

    public int readings(int what) {
        boolean asksFirst = what >= 10 && what < 10 + SERMON_WORDS;
        if (what != 0 && what != 1 && !asksFirst) return OUTSIDE;
        foretelling.prepare();
        if (what == 0) return foretelling.total();
        return what == 1 ? foretelling.wordsInAny() : foretelling.wordOfFirst(what - 10);
    }

    public int came(int what) {
        if (what != 0 && what != 1) return OUTSIDE;
        if (row.length() != sermon.letterTotal()) return NOT;
        return what == 0 ? sermon.countLateRows(row, told.choir.size()) : sermon.firstLateRow(row, told.choir.size());
    }

    // ---- the list

    public int alone(int word, int set) {
        if (!told.list.has(word)) return UNKNOWN;
        if (set < 0 || set > told.choir.allVoices()) return OUTSIDE;
        return likeness.wordSaidBy(word, set);
    }

    public int twins(int voice, int what) {
        if (!told.choir.has(voice)) return UNKNOWN;
        if (what != 0 && what != 1) return OUTSIDE;
        return what == 0 ? likeness.countTwins(voice) : likeness.firstTwins(voice);
    }

    public int learnt(int voice, int what, int part) {
        if (!told.choir.has(voice)) return UNKNOWN;
        if (what != 0 && what != 1) return OUTSIDE;
        if (part != 0 && part != 1) return OUTSIDE;
        int words = told.list.size();
        if (words == 0) return NOT;
        int above = what == 0 ? likeness.sumOfClassSizes(voice) : likeness.countClasses(voice);
        return lowestTerm(part == 0 ? above : words, part == 0 ? words : above);
    }

    public int seats(int i) {
        if (i < NONE) return OUTSIDE;
        if (i >= told.choir.size()) return NONE;
        seating.prepare();
        return i == NONE ? seating.fewestSpoilt() : seating.voiceAt(i);
    }

    public int bears(int what) {
        if (what != 0 && what != 1) return OUTSIDE;
        int set = likeness.greatestBearing();
        return what == 0 ? Integer.bitCount(set) : set;
    }

    public int keep(int k) {
        if (k < 0 || k >= SHELVES) return UNKNOWN;
        shelf(k).copyFrom(sermon);
        keptBits |= 1 << k;
        return sermon.saidTotal();
    }

    public int back(int k) {
        if (k < 0 || k >= SHELVES) return UNKNOWN;
        if ((keptBits >> k & 1) == 0) return NOT;
        sermon.copyFrom(shelf(k));
        return sermon.saidTotal();
    }

    public int count(int what) {
        switch (what) {
            case 0: return told.choir.size();
            case 1: return told.list.size();
            case 2: return sermon.wordTotal();
            case 3: return sermon.letterTotal();
            case 4: return sermon.saidTotal();
            case 5: return row.length();
            case 6: return script.length();
            case 7: return told.list.followBits();
            default: return OUTSIDE;
        }
    }

    private Sermon shelf(int k) {
        return k == 0 ? keptFirst : keptSecond;
    }

    /** The asked part of a fraction, divided by what it shares with the other part. */
    private static int lowestTerm(int asked, int other) {
        for (int d = Math.min(asked, other); d > 1; d--) {
            if (asked % d == 0 && other % d == 0) return asked / d;
        }
        return asked;
    }

    /** THE TEXT: bytes as they were written. */
    private static final class Script {
        private final int[] bytes = new int[MOST_BYTES];
        private int length;

        int length() {
            return length;
        }

        boolean hasRoom(int n) {
            return n <= MOST_BYTES - length;
        }

        void append(long packed, int n) {
            for (int i = 0; i < n && length < MOST_BYTES; i++) {
                bytes[length] = (int) (packed >> 8 * i & 255);
                length++;
            }
        }

        int makeEmpty() {
            int had = length;
            length = 0;
            return had;
        }

        int at(int place) {
            return place < 0 || place >= length ? NONE : bytes[place];
        }

        /** The first place from one on whose byte is not between two. */
        int endOfRow(int from, int low, int high) {
            int place = from < 0 ? 0 : from;
            while (place < length && bytes[place] >= low && bytes[place] <= high) place++;
            return place;
        }
    }

    /** The WORDS, and which SORT MAY FOLLOW which. */
    private static final class WordList {
        private final int[] letters = new int[MOST_WORDS * MOST_LETTERS];
        private final int[] lengths = new int[MOST_WORDS];
        private final int[] sorts = new int[MOST_WORDS];
        private int size;
        private int follow = ALL_MAY_FOLLOW;

        void copyFrom(WordList other) {
            System.arraycopy(other.letters, 0, letters, 0, letters.length);
            System.arraycopy(other.lengths, 0, lengths, 0, lengths.length);
            System.arraycopy(other.sorts, 0, sorts, 0, sorts.length);
            size = other.size;
            follow = other.follow;
        }

        int size() {
            return size;
        }

        boolean isFull() {
            return size >= MOST_WORDS;
        }

        boolean has(int word) {
            return word >= 0 && word < size;
        }

        int lengthOf(int word) {
            return word < 0 || word >= size ? 0 : lengths[word];
        }

        int sortOf(int word) {
            return word < 0 || word >= size ? 0 : sorts[word];
        }

        int letterOf(int word, int k) {
            if (word < 0 || word >= size || k < 0 || k >= lengths[word]) return NONE;
            return letters[word * MOST_LETTERS + k];
        }

        int followBits() {
            return follow;
        }

        boolean mayFollow(int ahead, int behind) {
            return (follow >> SORTS * ahead + behind & 1) != 0;
        }

        void forbid(int ahead, int behind) {
            follow &= ~(1 << SORTS * ahead + behind);
        }

        void makeFree() {
            size = 0;
            follow = ALL_MAY_FOLLOW;
        }

        boolean isTold(Script script, int begin, int end) {
            for (int word = 0; word < size; word++) {
                if (isSpelt(word, script, begin, end)) return true;
            }
            return false;
        }

        private boolean isSpelt(int word, Script script, int begin, int end) {
            if (lengthOf(word) != end - begin) return false;
            for (int k = 0; k < end - begin; k++) {
                if (letterOf(word, k) != script.at(begin + k) - 'a' + 1) return false;
            }
            return true;
        }

        void append(int sort, Script script, int begin, int end) {
            int length = end - begin;
            if (size >= MOST_WORDS || length < 1 || length > MOST_LETTERS) return;
            for (int k = 0; k < length; k++) letters[size * MOST_LETTERS + k] = script.at(begin + k) - 'a' + 1;
            lengths[size] = length;
            sorts[size] = sort;
            size++;
        }
    }

    /** The VOICES: who is AWAY, HOARSE, LATE, and so which letters of a row are said. */
    private static final class Choir {
        private final int[] late = new int[MOST_VOICES];
        private int size = FIRST_VOICES;
        private int away;
        private int hoarse;

        void copyFrom(Choir other) {
            System.arraycopy(other.late, 0, late, 0, late.length);
            size = other.size;
            away = other.away;
            hoarse = other.hoarse;
        }

        void beginAnew(int voices) {
            size = Math.max(1, Math.min(voices, MOST_VOICES));
            away = 0;
            hoarse = 0;
            for (int voice = 0; voice < MOST_VOICES; voice++) late[voice] = 0;
        }

        int size() {
            return size;
        }

        int allVoices() {
            return (1 << size) - 1;
        }

        boolean has(int voice) {
            return voice >= 0 && voice < size;
        }

        boolean isAway(int voice) {
            return voice >= 0 && voice < size && (away >> voice & 1) != 0;
        }

        boolean isHoarse(int voice) {
            return voice >= 0 && voice < size && (hoarse >> voice & 1) != 0;
        }

        int lateOf(int voice) {
            return voice >= 0 && voice < size ? late[voice] : 0;
        }

        void setAway(int voice, boolean is) {
            away = is ? away | 1 << voice : away & ~(1 << voice);
        }

        void setHoarse(int voice, boolean is) {
            hoarse = is ? hoarse | 1 << voice : hoarse & ~(1 << voice);
        }

        void setLate(int voice, int letters) {
            if (has(voice)) late[voice] = letters;
        }

        int voiceOf(int i) {
            return size < 1 ? 0 : i % size;
        }

        boolean isSaid(int i) {
            if (size < 1) return false;
            int voice = i % size;
            int nth = i / size - lateOf(voice);
            if (isAway(voice) || nth < 0) return false;
            return !isHoarse(voice) || nth % 2 == 0;
        }
    }

    /** All that texts tell and that outlasts them. */
    private static final class Told {
        final WordList list = new WordList();
        final Choir choir = new Choir();

        void copyFrom(Told other) {
            list.copyFrom(other.list);
            choir.copyFrom(other.choir);
        }
    }

    /**
     * Reads the text token by token and does its lines on a draft. A part that cannot take the token at hand
     * leaves it there and answers false, so the fault is always where the token at hand begins.
     */
    private static final class Reader {
        private final Script script;
        private final Told draft;
        private int begin;
        private int end;
        private int lines;

        Reader(Script script, Told draft) {
            this.script = script;
            this.draft = draft;
        }

        int linesRead() {
            return lines;
        }

        int readToFault() {
            end = 0;
            advance();
            for (lines = 1; lines <= MOST_LINES; lines++) {
                if (!doLine()) return begin;
                if (begin >= script.length()) return NONE;
                if (script.at(begin) != ';' || lines == MOST_LINES) return begin;
                advance();
            }
            return begin;
        }

        private void advance() {
            begin = script.endOfRow(end, ' ', ' ');
            end = script.endOfRow(begin, 'a', 'z');
            if (end == begin) end = script.endOfRow(begin, '0', '9');
            if (end == begin && begin < script.length()) end = begin + 1;
        }

        private boolean tokenIs(String name) {
            if (end - begin != name.length()) return false;
            for (int i = 0; i < name.length(); i++) {
                if (script.at(begin + i) != name.charAt(i)) return false;
            }
            return true;
        }

        private int takeNumber(int low, int high) {
            if (end == begin || end - begin > 2) return NONE;
            int number = 0;
            for (int i = begin; i < end; i++) {
                int digit = script.at(i) - '0';
                if (digit < 0 || digit > 9) return NONE;
                number = 10 * number + digit;
            }
            if (number < low || number > high) return NONE;
            advance();
            return number;
        }

        private boolean doLine() {
            if (tokenIs("order")) return doOrder();
            if (tokenIs("word")) return doWord();
            if (tokenIs("not")) return doNot();
            if (tokenIs("free")) return doFree();
            if (tokenIs("away")) return doAway(true);
            if (tokenIs("here")) return doAway(false);
            if (tokenIs("hoarse")) return doHoarse(true);
            if (tokenIs("clear")) return doHoarse(false);
            return tokenIs("late") && doLate();
        }

        private boolean doOrder() {
            advance();
            int voices = takeNumber(1, MOST_VOICES);
            if (voices == NONE) return false;
            draft.choir.beginAnew(voices);
            return true;
        }

        private boolean doWord() {
            if (draft.list.isFull()) return false;
            advance();
            int sort = takeNumber(0, SORTS - 1);
            if (sort == NONE || script.at(begin) < 'a' || script.at(begin) > 'z') return false;
            if (end - begin > MOST_LETTERS || draft.list.isTold(script, begin, end)) return false;
            draft.list.append(sort, script, begin, end);
            advance();
            return true;
        }

        private boolean doNot() {
            advance();
            int ahead = takeNumber(0, SORTS - 1);
            if (ahead == NONE) return false;
            int behind = takeNumber(0, SORTS - 1);
            if (behind == NONE) return false;
            draft.list.forbid(ahead, behind);
            return true;
        }

        private boolean doFree() {
            advance();
            draft.list.makeFree();
            return true;
        }

        private boolean doAway(boolean away) {
            advance();
            int voice = takeNumber(0, draft.choir.size() - 1);
            if (voice == NONE) return false;
            draft.choir.setAway(voice, away);
            return true;
        }

        private boolean doHoarse(boolean hoarse) {
            advance();
            int voice = takeNumber(0, draft.choir.size() - 1);
            if (voice == NONE) return false;
            draft.choir.setHoarse(voice, hoarse);
            return true;
        }

        private boolean doLate() {
            advance();
            int voice = takeNumber(0, draft.choir.size() - 1);
            if (voice == NONE) return false;
            int letters = takeNumber(0, MOST_LATE);
            if (letters == NONE) return false;
            draft.choir.setLate(voice, letters);
            return true;
        }
    }

    /** THE SERMON, and how much of it is SAID; of its WORDS no call asks more than how many and the last. */
    private static final class Sermon {
        private final int[] letters = new int[SERMON_LETTERS];
        private int letterTotal;
        private int wordTotal;
        private int lastWord = NONE;
        private int said;

        void copyFrom(Sermon other) {
            System.arraycopy(other.letters, 0, letters, 0, letters.length);
            letterTotal = other.letterTotal;
            wordTotal = other.wordTotal;
            lastWord = other.lastWord;
            said = other.said;
        }

        void makeEmpty() {
            letterTotal = 0;
            wordTotal = 0;
            lastWord = NONE;
            said = 0;
        }

        int letterTotal() {
            return letterTotal;
        }

        int wordTotal() {
            return wordTotal;
        }

        int saidTotal() {
            return said;
        }

        int lastWord() {
            return lastWord;
        }

        boolean hasRoom(int more) {
            return wordTotal < SERMON_WORDS && more <= SERMON_LETTERS - letterTotal;
        }

        void append(int word, WordList list) {
            int more = list.lengthOf(word);
            if (!hasRoom(more)) return;
            for (int k = 0; k < more; k++) letters[letterTotal + k] = list.letterOf(word, k);
            letterTotal += more;
            wordTotal++;
            lastWord = word;
        }

        void sayMore(int n) {
            said += Math.min(n, letterTotal - said);
        }

        private int letterAt(int i) {
            return i < 0 || i >= letterTotal ? HOLE : letters[i];
        }

        int heardAt(int i, Choir choir) {
            return choir.isSaid(i) ? letterAt(i) : HOLE;
        }

        int lettersHeard(Choir choir) {
            int heard = 0;
            for (int i = 0; i < said; i++) {
                if (choir.isSaid(i)) heard++;
            }
            return heard;
        }

        int lettersSaidBy(int voice, Choir choir) {
            int heard = 0;
            for (int i = 0; i < said; i++) {
                if (choir.voiceOf(i) == voice && choir.isSaid(i)) heard++;
            }
            return heard;
        }

        // Each voice's letters are its own, so rows of LATE are counted and found voice by voice.
        int countLateRows(Sound row, int voices) {
            int rows = 1;
            for (int voice = 0; voice < voices; voice++) {
                int ways = 0;
                for (int late = 0; late <= MOST_LATE; late++) {
                    if (isHeardLate(row, voices, voice, late)) ways++;
                }
                rows *= ways;
            }
            return rows;
        }

        int firstLateRow(Sound row, int voices) {
            int first = 0;
            for (int voice = 0; voice < voices; voice++) {
                int late = leastLate(row, voices, voice);
                if (late == NONE) return NONE;
                first = LATE_BASE * first + late;
            }
            return first;
        }

        private int leastLate(Sound row, int voices, int voice) {
            for (int late = 0; late <= MOST_LATE; late++) {
                if (isHeardLate(row, voices, voice, late)) return late;
            }
            return NONE;
        }

        private boolean isHeardLate(Sound row, int voices, int voice, int late) {
            int nth = 0;
            for (int i = voice; i < letterTotal && nth < letterTotal; i += voices) {
                int due = nth < late ? HOLE : letterAt(i);
                if (row.at(i) != due) return false;
                nth++;
            }
            return true;
        }
    }

    /** SOUND: LETTERS and HOLES as they are told. */
    private static final class Sound {
        private final int[] letters = new int[SERMON_LETTERS];
        private int length;

        int length() {
            return length;
        }

        boolean isFull() {
            return length >= SERMON_LETTERS;
        }

        int makeEmpty() {
            int had = length;
            length = 0;
            return had;
        }

        void append(int letter) {
            if (isFull()) return;
            letters[length] = letter;
            length++;
        }

        int at(int i) {
            return i < 0 || i >= length ? NONE : letters[i];
        }

        boolean isFitting(WordList list, int word, int from) {
            int wanted = list.lengthOf(word);
            if (wanted > length - from) return false;
            for (int k = 0; k < wanted; k++) {
                int letter = at(from + k);
                if (letter != HOLE && letter != list.letterOf(word, k)) return false;
            }
            return true;
        }
    }

    /**
     * READINGS of SOUND. A state is how many words are used, the place they end at and the sort ahead of it;
     * states that can be reached are found from the front, ways to end from them from the back.
     */
    private static final class Foretelling {
        private static final int NO_SORT = SORTS;
        private static final int AHEADS = SORTS + 1;

        private final int[] fitting = new int[SERMON_LETTERS + 1];
        private final int[] followers = new int[AHEADS];
        private final int[][] reached = new int[SERMON_WORDS + 1][SERMON_LETTERS + 1];
        private final int[][] ways = new int[SERMON_WORDS + 1][(SERMON_LETTERS + 1) * AHEADS];
        private final WordList list;
        private final Sound row;
        private int length;

        Foretelling(WordList list, Sound row) {
            this.list = list;
            this.row = row;
        }

        void prepare() {
            length = row.length();
            findChoices();
            findReached();
            for (int used = SERMON_WORDS; used >= 0; used--) findWays(used);
        }

        private void findChoices() {
            for (int place = 0; place <= length; place++) {
                fitting[place] = 0;
                for (int word = 0; word < list.size(); word++) {
                    if (row.isFitting(list, word, place)) fitting[place] |= 1 << word;
                }
            }
            for (int ahead = 0; ahead < AHEADS; ahead++) {
                followers[ahead] = 0;
                for (int word = 0; word < list.size(); word++) {
                    boolean may = ahead == NO_SORT || list.mayFollow(ahead, list.sortOf(word));
                    if (may) followers[ahead] |= 1 << word;
                }
            }
        }

        private void findReached() {
            for (int used = 0; used <= SERMON_WORDS; used++) {
                for (int place = 0; place <= length; place++) reached[used][place] = 0;
            }
            reached[0][0] = 1 << NO_SORT;
            for (int used = 0; used < SERMON_WORDS; used++) {
                for (int place = 0; place < length; place++) stepFrom(used, place);
            }
        }

        private void stepFrom(int used, int place) {
            int choices = choicesAt(used, place);
            for (int word = 0; choices >> word != 0 && word < MOST_WORDS; word++) {
                if ((choices >> word & 1) == 0) continue;
                int next = place + list.lengthOf(word);
                if (next <= length) reached[used + 1][next] |= 1 << list.sortOf(word);
            }
        }

        /** Words that can come next behind any of the sorts that can stand ahead of a place. */
        private int choicesAt(int used, int place) {
            if (reached[used][place] == 0) return 0;
            int choices = 0;
            for (int ahead = 0; ahead < AHEADS; ahead++) {
                if (isReached(used, place, ahead)) choices |= followers[ahead];
            }
            return choices & fitting[place];
        }

        private boolean isReached(int used, int place, int ahead) {
            return (reached[used][place] >> ahead & 1) != 0;
        }

        private void findWays(int used) {
            for (int place = 0; place <= length; place++) {
                if (reached[used][place] == 0) continue;
                for (int ahead = 0; ahead < AHEADS; ahead++) {
                    if (!isReached(used, place, ahead)) continue;
                    ways[used][AHEADS * place + ahead] = sumOfWays(used, place, ahead);
                }
            }
        }

        private int sumOfWays(int used, int place, int ahead) {
            if (place == length) return 1;
            int choices = fitting[place] & followers[ahead];
            int sum = 0;
            for (int word = 0; choices >> word != 0 && word < MOST_WORDS; word++) {
                if ((choices >> word & 1) != 0) sum += waysBehind(used, place, word);
            }
            return sum;
        }

        private int waysBehind(int used, int place, int word) {
            int next = place + list.lengthOf(word);
            if (used >= SERMON_WORDS || next > length) return 0;
            return ways[used + 1][AHEADS * next + list.sortOf(word)];
        }

        int total() {
            return length == 0 ? 0 : ways[0][NO_SORT];
        }

        int wordsInAny() {
            int words = 0;
            for (int used = 0; used < SERMON_WORDS; used++) {
                for (int place = 0; place < length; place++) words |= wordsThatEndWell(used, place);
            }
            return words;
        }

        private int wordsThatEndWell(int used, int place) {
            int choices = choicesAt(used, place);
            int words = 0;
            for (int word = 0; choices >> word != 0 && word < MOST_WORDS; word++) {
                if ((choices >> word & 1) != 0 && waysBehind(used, place, word) > 0) words |= 1 << word;
            }
            return words;
        }

        int wordOfFirst(int i) {
            int place = 0;
            int ahead = NO_SORT;
            for (int used = 0; used < SERMON_WORDS && place < length; used++) {
                int word = leastThatEndsWell(used, place, ahead);
                if (word == NONE || used == i) return word;
                place += list.lengthOf(word);
                ahead = list.sortOf(word);
            }
            return NONE;
        }

        private int leastThatEndsWell(int used, int place, int ahead) {
            int choices = fitting[place] & followers[ahead];
            for (int word = 0; choices >> word != 0 && word < MOST_WORDS; word++) {
                if ((choices >> word & 1) != 0 && waysBehind(used, place, word) > 0) return word;
            }
            return NONE;
        }
    }

    /** What words of the list have in common when not all voices are heard: ALONE, TWINS, LEARNT, BEARS. */
    private static final class Likeness {
        private final int[] clashes = new int[MOST_WORDS];
        private final WordList list;
        private final Choir choir;

        Likeness(Told told) {
            list = told.list;
            choir = told.choir;
        }

        int wordSaidBy(int word, int set) {
            for (int other = 0; other < list.size(); other++) {
                if (isSaidBy(word, set, other)) return other;
            }
            return NONE;
        }

        private boolean isSaidBy(int word, int set, int other) {
            int k = 0;
            for (int i = 0; i < list.lengthOf(word); i++) {
                if ((set >> choir.voiceOf(i) & 1) == 0) continue;
                if (list.letterOf(word, i) != list.letterOf(other, k)) return false;
                k++;
            }
            return k == list.lengthOf(other);
        }

        int countTwins(int voice) {
            int pairs = 0;
            for (int word = 0; word < list.size(); word++) {
                if (twinOf(voice, word) != NONE) pairs++;
            }
            return pairs;
        }

        int firstTwins(int voice) {
            for (int word = 0; word < list.size(); word++) {
                int twin = twinOf(voice, word);
                if (twin != NONE) return TWIN_BASE * word + twin;
            }
            return NONE;
        }

        // No two words are alike, so a word has one twin at most.
        private int twinOf(int voice, int word) {
            int twin = wordSaidBy(word, choir.allVoices() & ~(1 << voice));
            return twin == word ? NONE : twin;
        }

        int sumOfClassSizes(int voice) {
            int sum = 0;
            for (int a = 0; a < list.size(); a++) {
                for (int b = 0; b < list.size(); b++) {
                    if (isOneClass(voice, a, b)) sum++;
                }
            }
            return sum;
        }

        // GUESS is the sum of 1 / size over all words of all classes, over the words: each class gives 1.
        int countClasses(int voice) {
            int classes = 0;
            for (int a = 0; a < list.size(); a++) {
                int b = 0;
                while (b < a && !isOneClass(voice, a, b)) b++;
                if (b == a) classes++;
            }
            return classes;
        }

        private boolean isOneClass(int voice, int a, int b) {
            if (list.lengthOf(a) != list.lengthOf(b)) return false;
            return (voicesThatDiffer(a, b) >> voice & 1) == 0;
        }

        /** Bits of the voices that say unlike letters in two words of like length. */
        private int voicesThatDiffer(int a, int b) {
            int voices = 0;
            for (int i = 0; i < list.lengthOf(a); i++) {
                if (list.letterOf(a, i) != list.letterOf(b, i)) voices |= 1 << choir.voiceOf(i);
            }
            return voices;
        }

        int greatestBearing() {
            for (int a = 0; a < list.size(); a++) {
                clashes[a] = 0;
                for (int b = 0; b < list.size(); b++) {
                    if (a != b && isClash(a, b)) clashes[a] |= 1 << b;
                }
            }
            return greatestWithoutClash(clashes, (1 << list.size()) - 1, list.size() - 1);
        }

        // Two words that differ by one voice alone are heard alike without it.
        private boolean isClash(int a, int b) {
            if (list.lengthOf(a) != list.lengthOf(b)) return false;
            return Integer.bitCount(voicesThatDiffer(a, b)) <= 1;
        }

        /**
         * The greatest set among some words, of several the least. Going from the highest word down, a set
         * without it is less than any with it, so of two as great the one without it is taken.
         */
        private static int greatestWithoutClash(int[] clashes, int words, int highest) {
            if (highest < 0 || highest >= clashes.length) return 0;
            int bit = 1 << highest;
            int others = words & ~bit;
            if ((words & bit) == 0) return greatestWithoutClash(clashes, others, highest - 1);
            int with = bit | greatestWithoutClash(clashes, others & ~clashes[highest], highest - 1);
            if ((clashes[highest] & others) == 0) return with;
            int without = greatestWithoutClash(clashes, others, highest - 1);
            return Integer.bitCount(without) >= Integer.bitCount(with) ? without : with;
        }
    }

    /** SEATS: the row of voices by which fewest letters are spoilt, found over sets of voices already seated. */
    private static final class Seating {
        private final int[] letters = new int[MOST_VOICES];
        private final int[] seconds = new int[MOST_VOICES];
        private final int[] fewest = new int[1 << MOST_VOICES];
        private final WordList list;
        private final Choir choir;

        Seating(Told told) {
            list = told.list;
            choir = told.choir;
        }

        void prepare() {
            countLetters();
            fewest[choir.allVoices()] = 0;
            for (int seated = choir.allVoices() - 1; seated >= 0; seated--) {
                fewest[seated] = fewestWith(seated, leastBest(seated));
            }
        }

        private void countLetters() {
            for (int turn = 0; turn < MOST_VOICES; turn++) {
                letters[turn] = 0;
                seconds[turn] = 0;
            }
            for (int word = 0; word < list.size(); word++) {
                for (int i = 0; i < list.lengthOf(word); i++) countLetter(i);
            }
        }

        private void countLetter(int i) {
            if (choir.size() < 1) return;
            int turn = choir.voiceOf(i);
            letters[turn]++;
            if (i / choir.size() % 2 == 1) seconds[turn]++;
        }

        /** The voice that goes best on the next turn, of several the least; NONE when all are seated. */
        private int leastBest(int seated) {
            int best = NONE;
            for (int voice = 0; voice < choir.size(); voice++) {
                if ((seated >> voice & 1) != 0) continue;
                if (best == NONE || fewestWith(seated, voice) < fewestWith(seated, best)) best = voice;
            }
            return best;
        }

        private int fewestWith(int seated, int voice) {
            return voice == NONE ? 0 : spoiltBy(voice, Integer.bitCount(seated)) + fewest[seated | 1 << voice];
        }

        private int spoiltBy(int voice, int turn) {
            if (choir.isAway(voice)) return letters[turn];
            return choir.isHoarse(voice) ? seconds[turn] : 0;
        }

        int fewestSpoilt() {
            return fewest[0];
        }

        int voiceAt(int turn) {
            int seated = 0;
            for (int i = 0; i < turn; i++) seated |= 1 << leastBest(seated);
            return leastBest(seated);
        }
    }
}
