/**
 * Each sentence of the document that bounds what is foretold of the list, and what is counted: just inside, just
 * outside, at nothing, at the most. Promises 19 to 23 and 26, and 'Parts are told in lowest terms'.
 */
public final class ListBoundsTests {
    private static final int NONE = ThirdLetter.NONE, UNKNOWN = ThirdLetter.UNKNOWN, OUTSIDE = ThirdLetter.OUTSIDE;
    private static final int NOT = ThirdLetter.NOT;
    private static final int LEAST = Integer.MIN_VALUE, MOST = Integer.MAX_VALUE;
    private static final String TEN = "abcdefghij";

    private static final Checks checks = new Checks("list bounds");

    private ListBoundsTests() {
    }

    public static void main(String[] args) {
        aloneOfASet();
        aloneKnowsItsWords();
        aloneNobodyAndAll();
        aloneWithoutHoles();
        aloneFromLetterZeroOn();
        aloneWhoeverIsAway();
        twinsOfWhat();
        twinsOfNothing();
        twinsUnlike();
        twinsTwentyTimesAAndB();
        twinsAtTheMost();
        learntOfWhat();
        learntOfNoWords();
        learntOfOneWord();
        learntOfALength();
        learntOneClassOrTwelve();
        partsInLowestTerms();
        seatsOfWhat();
        seatsOfNoWords();
        seatsEachVoiceOnce();
        seatsSecondLetters();
        seatsAtTheMost();
        seatsTheFirstRow();
        seatsLeaveLateOut();
        bearsOfWhat();
        bearsNothingAndOne();
        bearsOneVoice();
        bearsAnyVoiceMissing();
        bearsOfLikeLength();
        bearsTheLeastOfSeveral();
        bearsAtTheMost();
        countOfWhat();
        countAtNothingAndAtTheMost();
        checks.end();
    }

    private static void due(String call, long got, long want) {
        checks.due(call, got, want);
    }

    /** Twelve words of ten letters: the same letter ten times, or one letter and nine times a. */
    private static ThirdLetter twelve(String more, boolean same) {
        ThirdLetter x = new ThirdLetter();
        for (int third = 0; third < 3; third++) {
            StringBuilder text = new StringBuilder(third == 0 && !more.isEmpty() ? more + ";" : "");
            for (int i = 0; i < 4; i++) {
                String letter = "" + (char) ('b' + 4 * third + i);
                text.append(i == 0 ? "word 0 " : ";word 0 ").append(same ? letter.repeat(10) : letter + "aaaaaaaaa");
            }
            Checks.tell(x, text.toString());
        }
        due("twelve words", x.count(1), 12);
        return x;
    }

    private static void aloneOfASet() {
        checks.about("19: OUTSIDE: the set (bits of VOICES)");
        for (int v = 1; v <= 5; v++) {
            ThirdLetter x = Checks.told("word 0 aaaaa;order " + v);
            for (int set : new int[] {LEAST, -1, 1 << v, (1 << v) + 1, MOST}) {
                due("set " + set + " of " + v, x.alone(0, set), OUTSIDE);
            }
            for (int set = 0; set < 1 << v; set++) {
                due("set " + set + " of " + v, x.alone(0, set), set == (1 << v) - 1 ? 0 : NONE);
            }
        }
    }

    private static void aloneKnowsItsWords() {
        checks.about("19: UNKNOWN");
        due("no words", new ThirdLetter().alone(0, 7), UNKNOWN);
        ThirdLetter x = twelve("", true);
        due("the last", x.alone(11, 7), 11);
        for (int word : new int[] {LEAST, -1, 12, MOST}) {
            due("word " + word, x.alone(word, 7), UNKNOWN);
            due("word " + word + ", no such set", x.alone(word, 8), UNKNOWN);
        }
    }

    private static void aloneNobodyAndAll() {
        checks.about("ALONE of nobody, of all: which WORD that is; none");
        ThirdLetter x = Checks.told("word 0 a;word 1 ab;word 2 " + TEN);
        for (int word = 0; word < 3; word++) {
            due("nobody", x.alone(word, 0), NONE);
            due("all", x.alone(word, 7), word);
        }
        // a voice that has no letter of the word says nothing, the others say the whole word
        due("voice 2 of ab", x.alone(1, 4), NONE);
        due("voices 0, 1 of ab", x.alone(1, 3), 1);
        due("voice 0 of ab", x.alone(1, 1), 0);
        due("voice 0 of a", x.alone(0, 1), 0);
        due("voices 1, 2 of a", x.alone(0, 6), NONE);
    }

    private static void aloneWithoutHoles() {
        checks.about("ALONE: LETTERS put together without HOLES");
        ThirdLetter x = Checks.told("order 5;word 0 " + TEN + ";word 0 af;word 0 ej;word 0 aefj;word 0 bcdghi",
            "word 0 abcdfghi;word 0 a;word 0 afx");
        due("voice 0", x.alone(0, 1), 1);
        due("voice 4", x.alone(0, 16), 2);
        due("voices 0, 4", x.alone(0, 17), 3);
        due("voices 1, 2, 3", x.alone(0, 14), 4);
        due("all but 4", x.alone(0, 15), 5);
        due("voice 1: no such word", x.alone(0, 2), NONE);
        due("part of a word is none", x.alone(0, 4), NONE);
        ThirdLetter one = Checks.told("order 1;word 0 ab;word 0 a");
        due("one voice", one.alone(0, 1), 0);
        due("nobody", one.alone(0, 0), NONE);
    }

    private static void aloneFromLetterZeroOn() {
        checks.about("ALONE: the WORD alone, from LETTER 0 on");
        ThirdLetter x = Checks.told("word 0 xy;word 0 abc;word 0 ac;word 0 b");
        Checks.preachAll(x, 0, 1);
        x.say(3);
        due("voice 1 of abc", x.alone(1, 2), 3);
        due("voices 0, 2 of abc", x.alone(1, 5), 2);
    }

    private static void aloneWhoeverIsAway() {
        checks.about("ALONE: none AWAY, HOARSE, LATE");
        ThirdLetter x = Checks.told("word 0 abcdef;word 0 ad;word 0 bcef;away 0;hoarse 0;late 0 3;late 1 1;hoarse 2");
        due("voice 0", x.alone(0, 1), 1);
        due("voices 1, 2", x.alone(0, 6), 2);
        due("all", x.alone(0, 7), 0);
        due("twins without 0", x.twins(0, 1), 2);
    }

    private static void twinsOfWhat() {
        checks.about("20: how many (what 0), the first (1; NONE). UNKNOWN; OUTSIDE");
        for (int v = 1; v <= 5; v++) {
            ThirdLetter x = Checks.told("word 0 ab;order " + v);
            for (int voice : new int[] {LEAST, -1, v, MOST}) {
                due("voice " + voice, x.twins(voice, 0), UNKNOWN);
                due("voice " + voice + ", no such what", x.twins(voice, 2), UNKNOWN);
            }
            for (int what : new int[] {LEAST, -1, 2, MOST}) due("what " + what, x.twins(v - 1, what), OUTSIDE);
            due("how many", x.twins(v - 1, 0), 0);
            due("the first", x.twins(v - 1, 1), NONE);
        }
    }

    private static void twinsOfNothing() {
        checks.about("TWINS: no WORDS, one WORD");
        for (int voice = 0; voice < 3; voice++) {
            due("no words", new ThirdLetter().twins(voice, 0), 0);
            due("the first", new ThirdLetter().twins(voice, 1), NONE);
            due("one word", Checks.told("word 0 aaa").twins(voice, 0), 0);
        }
        // what is left is nothing, and nothing is no word
        due("one voice", Checks.told("order 1;word 0 a;word 0 ab").twins(0, 0), 0);
    }

    private static void twinsUnlike() {
        checks.about("TWINS: pairs of unlike WORDS");
        // without voice 2 the word ab is left whole: that is ab, no pair
        ThirdLetter x = Checks.told("word 0 ab;word 0 aab;word 0 a");
        due("without 2", x.twins(2, 0), 0);
        due("without 1", x.twins(1, 0), 2);
        due("the first without 1", x.twins(1, 1), 2);
        due("without 0", x.twins(0, 0), 1);
        due("the first without 0", x.twins(0, 1), 20);
    }

    private static void twinsTwentyTimesAAndB() {
        checks.about("TWINS, the first: 20 times a, and b");
        ThirdLetter x = Checks.told("word 0 c;word 0 d;word 0 e;word 0 f;word 0 g;word 0 h;word 0 i;word 0 j",
            "word 0 k;word 0 l;word 0 m;word 0 xm");
        due("11 and 10", x.twins(0, 1), 230);
        ThirdLetter y = Checks.told("word 0 xm;word 0 d;word 0 e;word 0 f;word 0 g;word 0 h;word 0 i;word 0 j",
            "word 0 k;word 0 l;word 0 n;word 0 m");
        due("0 and 11", y.twins(0, 1), 11);
        ThirdLetter z = Checks.told("word 0 m;word 0 xm;word 0 xn;word 0 n");
        due("two", z.twins(0, 0), 2);
        due("the least a", z.twins(0, 1), 20);
    }

    private static void twinsAtTheMost() {
        checks.about("TWINS at the most");
        ThirdLetter x = Checks.told("word 0 z;word 0 az;word 0 bz;word 0 cz;word 0 dz;word 0 ez;word 0 fz",
            "word 0 gz;word 0 hz;word 0 iz;word 0 jz;word 0 kz");
        due("eleven mean the first", x.twins(0, 0), 11);
        due("the first", x.twins(0, 1), 20);
        ThirdLetter y = Checks.told("order 5;word 0 " + TEN + ";word 0 abcdfghi;word 0 bcdeghij");
        due("ten letters without 4", y.twins(4, 1), 1);
        due("ten letters without 0", y.twins(0, 1), 2);
        due("ten letters without 1", y.twins(1, 1), NONE);
    }

    private static void learns(ThirdLetter x, int voice, int... parts) {
        for (int i = 0; i < 4; i++) {
            due("learnt(" + voice + ", " + i / 2 + ", " + i % 2 + ")", x.learnt(voice, i / 2, i % 2), parts[i]);
        }
    }

    private static void learntOfWhat() {
        checks.about("21: the mean (what 0), GUESS (1), above (part 0), below (1). UNKNOWN; OUTSIDE");
        for (int v = 1; v <= 5; v++) {
            ThirdLetter x = Checks.told("word 0 ab;order " + v);
            for (int voice : new int[] {LEAST, -1, v, MOST}) {
                due("voice " + voice, x.learnt(voice, 0, 0), UNKNOWN);
                due("voice " + voice + ", no such what nor part", x.learnt(voice, 2, 2), UNKNOWN);
            }
            for (int wrong : new int[] {LEAST, -1, 2, MOST}) {
                due("what " + wrong, x.learnt(v - 1, wrong, 0), OUTSIDE);
                due("part " + wrong, x.learnt(v - 1, 1, wrong), OUTSIDE);
            }
            learns(x, v - 1, 1, 1, 1, 1);
        }
    }

    private static void learntOfNoWords() {
        checks.about("21: NOT: there are no WORDS");
        for (ThirdLetter x : new ThirdLetter[] {new ThirdLetter(), Checks.told("word 0 a", "free")}) {
            learns(x, 0, NOT, NOT, NOT, NOT);
            learns(x, 2, NOT, NOT, NOT, NOT);
            due("outside comes first", x.learnt(0, 2, 0), OUTSIDE);
            due("outside comes first", x.learnt(0, 0, -1), OUTSIDE);
            due("unknown comes first", x.learnt(3, 0, 0), UNKNOWN);
        }
    }

    private static void learntOfOneWord() {
        checks.about("LEARNT of one WORD: it is alone in its class");
        for (String word : new String[] {"a", "ab", TEN}) {
            ThirdLetter x = Checks.told("order 5;word 0 " + word);
            for (int voice = 0; voice < 5; voice++) learns(x, voice, 1, 1, 1, 1);
        }
    }

    private static void learntOfALength() {
        checks.about("LEARNT: WORDS of a length with like LETTERS at that VOICE's places are one class");
        // voice 2 has no letter of any; a and b are one class, ab and ba another
        ThirdLetter x = Checks.told("word 0 a;word 0 b;word 0 ab;word 0 ba");
        learns(x, 2, 2, 1, 1, 2);
        // voice 0 hears a, b, a, b: of a length no two are alike
        learns(x, 0, 1, 1, 1, 1);
        // voice 1 has no letter of a and b, and hears b, a
        learns(x, 1, 3, 2, 3, 4);
        // places 0, 3, 6, 9 are voice 0's: one unlike letter parts them
        ThirdLetter y = Checks.told("word 0 axxaxxaxxa;word 0 ayyayyayya;word 0 axxaxxaxxb");
        learns(y, 0, 5, 3, 2, 3);
        learns(y, 1, 5, 3, 2, 3);
    }

    private static void learntOneClassOrTwelve() {
        checks.about("LEARNT: all WORDS in one class, each in its own");
        ThirdLetter x = twelve("order 5", false);
        learns(x, 0, 1, 1, 1, 1);
        for (int voice = 1; voice < 5; voice++) learns(x, voice, 12, 1, 1, 12);
    }

    private static void partsInLowestTerms() {
        checks.about("parts are told in lowest terms: above (part 0), below (1)");
        // classes of 2 and 2: 8 / 4 and 2 / 4
        learns(Checks.told("word 0 aa;word 0 ab;word 0 ba;word 0 bb"), 0, 2, 1, 1, 2);
        // classes of 3 and 1: 10 / 4 and 2 / 4
        learns(Checks.told("word 0 aa;word 0 ab;word 0 ac;word 0 bb"), 0, 5, 2, 1, 2);
        // classes of 2 and 1: 5 / 3 and 2 / 3
        learns(Checks.told("word 0 aa;word 0 ab;word 0 bb"), 0, 5, 3, 2, 3);
        // classes of 4, 1, 1: 18 / 6 and 3 / 6
        learns(Checks.told("word 0 aa;word 0 ab;word 0 ac;word 0 ad;word 0 bb;word 0 cc"), 0, 3, 1, 1, 2);
        // classes of 3, 2, 1: 14 / 6 and 3 / 6
        learns(Checks.told("word 0 aa;word 0 ab;word 0 ac;word 0 ba;word 0 bb;word 0 cc"), 0, 7, 3, 1, 2);
        // classes of 3, 3, 3: 27 / 9 and 3 / 9
        learns(Checks.told("word 0 aa;word 0 ab;word 0 ac;word 0 ba;word 0 bb;word 0 bc;word 0 ca;word 0 cb;word 0 cc"),
            0, 3, 1, 1, 3);
        // classes of 6, 3, 1: 46 / 10 and 3 / 10
        learns(Checks.told("word 0 aa;word 0 ab;word 0 ac;word 0 ad;word 0 ae;word 0 af;word 0 ba;word 0 bb;word 0 bc",
            "word 0 cc"), 0, 23, 5, 3, 10);
    }

    private static void seatsAre(ThirdLetter x, int spoilt, int... row) {
        due("spoilt", x.seats(NONE), spoilt);
        for (int i = 0; i < 6; i++) due("place " + i, x.seats(i), i < row.length ? row[i] : NONE);
    }

    private static void seatsOfWhat() {
        checks.about("22: SPOILT (i NONE), the VOICE at place i; NONE: there are not so many. OUTSIDE: i below NONE");
        for (int v = 1; v <= 5; v++) {
            ThirdLetter x = Checks.told("word 0 ab;order " + v);
            for (int i : new int[] {LEAST, -3, -2}) due("i " + i, x.seats(i), OUTSIDE);
            due("i NONE", x.seats(-1), 0);
            due("the first place", x.seats(0), 0);
            due("the last place", x.seats(v - 1), v - 1);
            for (int i : new int[] {v, v + 1, MOST}) due("i " + i, x.seats(i), NONE);
        }
    }

    private static void seatsOfNoWords() {
        checks.about("SEATS of no WORDS: nothing is SPOILT, the first row");
        seatsAre(new ThirdLetter(), 0, 0, 1, 2);
        seatsAre(Checks.told("order 1;away 0"), 0, 0);
        seatsAre(Checks.told("order 5;away 0;away 1;away 2;hoarse 3;hoarse 4"), 0, 0, 1, 2, 3, 4);
    }

    private static void seatsEachVoiceOnce() {
        checks.about("SEATS: rows of VOICES (each once)");
        // one letter: the one who is away must not have the first turn
        seatsAre(Checks.told("word 0 a;away 0"), 0, 1, 0, 2);
        seatsAre(Checks.told("word 0 a;away 0;away 1"), 0, 2, 0, 1);
        seatsAre(Checks.told("word 0 a;away 0;away 1;away 2"), 1, 0, 1, 2);
        seatsAre(Checks.told("order 5;word 0 abcd;away 0"), 0, 1, 2, 3, 4, 0);
        seatsAre(Checks.told("order 5;word 0 abcde;away 0"), 1, 0, 1, 2, 3, 4);
        seatsAre(Checks.told("order 5;word 0 abc;away 0;away 1;away 2;away 3"), 2, 0, 1, 4, 2, 3);
        seatsAre(Checks.told("order 1;word 0 abc;away 0"), 3, 0);
    }

    private static void seatsSecondLetters() {
        checks.about("SPOILT: of all WORDS, spoken alone, LETTERS that are HOLES");
        // a hoarse voice spoils its second letter of a word, fourth, ..; each word begins anew
        seatsAre(Checks.told("order 1;word 0 a;word 0 b;word 0 c;hoarse 0"), 0, 0);
        seatsAre(Checks.told("order 1;word 0 ab;hoarse 0"), 1, 0);
        seatsAre(Checks.told("order 1;word 0 abc;hoarse 0"), 1, 0);
        seatsAre(Checks.told("order 1;word 0 abcd;hoarse 0"), 2, 0);
        seatsAre(Checks.told("order 1;word 0 " + TEN + ";hoarse 0"), 5, 0);
        seatsAre(Checks.told("word 0 abc;hoarse 0;hoarse 1;hoarse 2"), 0, 0, 1, 2);
        seatsAre(Checks.told("word 0 abcd;hoarse 0"), 0, 1, 0, 2);
        seatsAre(Checks.told("word 0 abcdef;hoarse 0"), 1, 0, 1, 2);
        // away and hoarse is away
        seatsAre(Checks.told("order 1;word 0 abc;away 0;hoarse 0"), 3, 0);
    }

    private static void seatsAtTheMost() {
        checks.about("SPOILT at the most: 12 WORDS of 10 LETTERS");
        seatsAre(twelve("order 5;away 0;away 1;away 2;away 3;away 4", true), 120, 0, 1, 2, 3, 4);
        seatsAre(twelve("order 1;away 0", true), 120, 0);
        seatsAre(twelve("order 1;hoarse 0", true), 60, 0);
        seatsAre(twelve("order 5;hoarse 0;hoarse 1;hoarse 2;hoarse 3;hoarse 4", true), 60, 0, 1, 2, 3, 4);
        // turn 0 has 48 letters, turns 1 and 2 have 36 each
        seatsAre(twelve("away 0", true), 36, 1, 0, 2);
    }

    private static void seatsTheFirstRow() {
        checks.about("SEATS: the first such row (the first turn's least, ..)");
        // who is away goes on the turn without a letter; the others by their numbers
        seatsAre(Checks.told("order 4;word 0 ab;away 1"), 0, 0, 2, 1, 3);
        seatsAre(Checks.told("order 4;word 0 ab;away 0"), 0, 1, 2, 0, 3);
        seatsAre(Checks.told("order 4;word 0 ab;away 0;away 1"), 0, 2, 3, 0, 1);
        seatsAre(Checks.told("order 4;word 0 ab;away 3"), 0, 0, 1, 2, 3);
    }

    private static void seatsLeaveLateOut() {
        checks.about("SEATS: LATE is left out");
        seatsAre(Checks.told("word 0 abc;late 0 3;late 1 3;late 2 3"), 0, 0, 1, 2);
        seatsAre(Checks.told("order 1;word 0 abcd;hoarse 0;late 0 1"), 2, 0);
        seatsAre(Checks.told("order 1;word 0 abc;hoarse 0;late 0 1"), 1, 0);
    }

    private static void bearsAre(ThirdLetter x, int size, int set) {
        due("how many", x.bears(0), size);
        due("the set", x.bears(1), set);
    }

    private static void bearsOfWhat() {
        checks.about("23: how many (what 0), the set (1). OUTSIDE");
        for (ThirdLetter x : new ThirdLetter[] {new ThirdLetter(), Checks.told("word 0 a")}) {
            for (int what : new int[] {LEAST, -1, 2, MOST}) due("what " + what, x.bears(what), OUTSIDE);
        }
    }

    private static void bearsNothingAndOne() {
        checks.about("BEARS of no WORDS, of one");
        bearsAre(new ThirdLetter(), 0, 0);
        bearsAre(Checks.told("word 0 a", "free"), 0, 0);
        bearsAre(Checks.told("word 0 a"), 1, 1);
        bearsAre(Checks.told("order 1;word 0 " + TEN), 1, 1);
    }

    private static void bearsOneVoice() {
        checks.about("BEARS with one VOICE: without it nothing is HEARD");
        bearsAre(Checks.told("order 1;word 0 ab;word 0 cd"), 1, 1);
        bearsAre(Checks.told("order 1;word 0 ab;word 0 cd;word 0 c"), 2, 5);
        // one of each length, the first told
        bearsAre(Checks.told("order 1;word 0 abc;word 0 a;word 0 b;word 0 ab;word 0 bc;word 0 bca"), 3, 1 + 2 + 8);
    }

    private static void bearsAnyVoiceMissing() {
        checks.about("BEARS any one VOICE missing: what is HEARD without any one VOICE is unlike");
        // unlike by one voice alone, by two
        for (int voice = 0; voice < 3; voice++) {
            StringBuilder other = new StringBuilder("aaa");
            other.setCharAt(voice, 'b');
            bearsAre(Checks.told("word 0 aaa;word 0 " + other), 1, 1);
        }
        bearsAre(Checks.told("word 0 aaa;word 0 bba"), 2, 3);
        bearsAre(Checks.told("word 0 aaa;word 0 bbb"), 2, 3);
        // unlike at two places of one voice: without it they are alike
        bearsAre(Checks.told("word 0 aaaa;word 0 baab"), 1, 1);
        bearsAre(Checks.told("order 4;word 0 aaaa;word 0 baab"), 2, 3);
        // others clear: whoever is away, hoarse, late
        bearsAre(Checks.told("word 0 aaa;word 0 bba;away 0;hoarse 1;late 2 3;late 1 3"), 2, 3);
    }

    private static void bearsOfLikeLength() {
        checks.about("BEARS: of each two of like length");
        bearsAre(Checks.told("word 0 a;word 0 ab;word 0 abc;word 0 abcd"), 4, 15);
        bearsAre(Checks.told("word 0 a;word 0 b;word 0 c"), 1, 1);
        bearsAre(Checks.told("word 0 a;word 0 b;word 0 cc"), 2, 5);
    }

    private static void bearsTheLeastOfSeveral() {
        checks.about("the greatest such set; of several the least (bits)");
        // 0 with 2, 1 with 3: each clashes with its neighbours
        bearsAre(Checks.told("word 0 aa;word 0 ab;word 0 bb;word 0 ba"), 2, 5);
        // 0 with 3 are 9, 1 with 2 are 6: the least by bits is not the one with the least word
        bearsAre(Checks.told("word 0 aa;word 0 ab;word 0 ba;word 0 bb"), 2, 6);
        bearsAre(Checks.told("word 0 aa;word 0 bb;word 0 ab"), 2, 3);
        // a greater set with higher words goes ahead of a lesser one
        bearsAre(Checks.told("word 0 ab;word 0 aa;word 0 bb;word 0 cc"), 3, 2 + 4 + 8);
    }

    private static void bearsAtTheMost() {
        checks.about("BEARS at the most: twelve WORDS");
        bearsAre(twelve("order 5", true), 12, 4095);
        bearsAre(twelve("order 2", true), 12, 4095);
        bearsAre(twelve("order 1", true), 1, 1);
        bearsAre(twelve("order 5", false), 1, 1);
    }

    private static void countOfWhat() {
        checks.about("26: 0 .. 7. OUTSIDE");
        ThirdLetter x = new ThirdLetter();
        for (int what : new int[] {LEAST, -1, 8, MOST}) due("what " + what, x.count(what), OUTSIDE);
    }

    private static void countAtNothingAndAtTheMost() {
        checks.about("26: counts at nothing and at the most");
        int[] atFirst = {3, 0, 0, 0, 0, 0, 0, 511};
        ThirdLetter x = new ThirdLetter();
        for (int what = 0; what <= 7; what++) due("at first, " + what, x.count(what), atFirst[what]);
        int[] atMost = {5, 12, 6, 60, 60, 60, 200, 511};
        ThirdLetter y = twelve("order 5", true);
        Checks.preachAll(y, 11, 11, 11, 11, 11, 11);
        y.say(60);
        y.listen();
        Checks.write(y, "z".repeat(200));
        for (int what = 0; what <= 7; what++) due("at the most, " + what, y.count(what), atMost[what]);
        // pairs of sorts, 3 a and b
        for (int pair = 0; pair < 9; pair++) {
            ThirdLetter z = Checks.told("not " + pair / 3 + " " + pair % 3);
            due("without pair " + pair, z.count(7), 511 - (1 << pair));
        }
    }
}
