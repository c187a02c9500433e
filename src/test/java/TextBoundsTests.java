/**
 * Each sentence of the document that bounds what is told (voices, words, letters, sorts, bytes, lines, digits, where
 * a fault is): just inside, just outside, at nothing, at the most. Promises 1 to 7.
 */
public final class TextBoundsTests {
    private static final int NONE = ThirdLetter.NONE, UNKNOWN = ThirdLetter.UNKNOWN, OUTSIDE = ThirdLetter.OUTSIDE;
    private static final int NOT = ThirdLetter.NOT, FULL = ThirdLetter.FULL;

    /** The nine lines by their tokens; those that an object with three voices and no words takes. */
    private static final String[][] LINES = {{"order", "3"}, {"word", "0", "ab"}, {"not", "0", "1"}, {"free"},
        {"away", "0"}, {"here", "1"}, {"hoarse", "2"}, {"clear", "0"}, {"late", "1", "2"}};

    private static final Checks checks = new Checks("text bounds");

    private TextBoundsTests() {
    }

    public static void main(String[] args) {
        callsAtMost512();
        voicesOneToFive();
        threeVoicesAtFirst();
        wordsTwelveAtMost();
        wordsAsTheyCome();
        lettersOneToTen();
        lettersAToZ();
        sortsZeroToTwo();
        allMayFollowAtFirst();
        noneAwayHoarseLateAtFirst();
        allAwayHoarseLate();
        lateZeroToThree();
        bytesTwoHundredAtMost();
        bytesOneToEight();
        bytesAnyValue();
        linesTwelveAtMost();
        linesAtLeastOne();
        semicolonBetweenLines();
        orderLineMakesVoicesAnew();
        thirteenthWordAtItsWord();
        toldWordAtItsLetters();
        notOneOfNinePairs();
        freeAtNothingAndAtTheMost();
        voicesBehindTheLinesAhead();
        hereAndClearOfThoseWhoAre();
        numbersOfOneOrTwoDigits();
        numbersInTheirBounds();
        digitsZeroToNine();
        blanksBetween();
        elevenLettersTooMany();
        firstTokenThatCannotStand();
        namesLetterByLetter();
        anyOtherByteIsAToken();
        endTooSoon();
        tokenTooMany();
        linesInTheirOrder();
        behindATextAllIsEmpty();
        erasedToNothing();
        oldBytesAreNotRead();
        faultAtTheLength();
        orderHowManyLines();
        wordWhat();
        voiceWhat();
        checks.end();
    }

    private static void due(String call, long got, long want) {
        checks.due(call, got, want);
    }

    /** The fault of the last text, behind the others; order() agrees with it, and is refused with a fault. */
    private static void fault(int want, String... texts) {
        ThirdLetter x = new ThirdLetter();
        String last = texts[texts.length - 1];
        for (int i = 0; i < texts.length - 1; i++) Checks.tell(x, texts[i]);
        Checks.write(x, last);
        due("fault() of '" + last + "'", x.fault(), want);
        boolean done = x.order() != NOT;
        checks.holds("order() of '" + last + "' is " + (want == NONE ? "done" : "refused"), done == (want == NONE));
        due("bytes behind order() of '" + last + "'", x.count(6), want == NONE ? 0 : last.length());
    }

    private static void callsAtMost512() {
        checks.about("an object is used for at most 512 calls");
        ThirdLetter x = new ThirdLetter();
        for (int i = 0; i < 512; i++) {
            boolean last = i % 61 == 60;
            due("call " + (i + 1), last ? x.hush() : x.sound(i % 27), last ? 60 : i % 61 + 1);
        }
        ThirdLetter y = new ThirdLetter();
        due("call 1", y.write(0x65657266L, 4), 4);
        for (int i = 2; i < 512; i++) y.fault();
        due("call 512", y.order(), 1);
        ThirdLetter z = new ThirdLetter();
        z.keep(1);
        for (int i = 2; i < 512; i++) z.keep(0);
        due("call 512", z.back(1), 0);
    }

    private static void voicesOneToFive() {
        checks.about("VOICES are 0 .. v less 1 (v 1 .. 5)");
        fault(6, "order 0");
        fault(6, "order 6");
        fault(6, "order 99");
        for (int v = 1; v <= 5; v++) {
            fault(NONE, "order " + v);
            ThirdLetter x = Checks.told("order " + v);
            due("voices", x.count(0), v);
            due("voice(-1, 0)", x.voice(-1, 0), UNKNOWN);
            due("voice(0, 0)", x.voice(0, 0), 0);
            due("voice(v less 1, 0)", x.voice(v - 1, 0), 0);
            due("voice(v, 0)", x.voice(v, 0), UNKNOWN);
            fault(NONE, "order " + v, "late " + (v - 1) + " 3");
            fault(5, "order " + v, "late " + v + " 3");
        }
    }

    private static void threeVoicesAtFirst() {
        checks.about("1: three VOICES, no WORDS");
        ThirdLetter x = new ThirdLetter();
        due("count(0)", x.count(0), 3);
        due("voice(2, 0)", x.voice(2, 0), 0);
        due("voice(3, 0)", x.voice(3, 0), UNKNOWN);
        due("count(1)", x.count(1), 0);
        due("word(0, 0)", x.word(0, 0), UNKNOWN);
        for (int what = 2; what <= 6; what++) due("count(" + what + ")", x.count(what), 0);
        due("readings(0)", x.readings(0), 0);
        due("bears(1)", x.bears(1), 0);
    }

    private static String wordLines(char from, char to) {
        StringBuilder text = new StringBuilder();
        for (char c = from; c <= to; c++) text.append(text.length() == 0 ? "word 0 " : ";word 0 ").append(c);
        return text.toString();
    }

    private static void wordsTwelveAtMost() {
        checks.about("WORDS: 12 at most (none at first)");
        ThirdLetter x = new ThirdLetter();
        due("none", x.count(1), 0);
        due("twelve lines", Checks.tell(x, wordLines('a', 'l')), 12);
        due("twelve", x.count(1), 12);
        due("word(11, 0)", x.word(11, 0), 1);
        due("word(11, 10)", x.word(11, 10), 12);
        due("word(12, 0)", x.word(12, 0), UNKNOWN);
        due("a thirteenth", Checks.tell(x, "word 0 m"), NOT);
        due("twelve still", x.count(1), 12);
        due("word(12, 0)", x.word(12, 0), UNKNOWN);
        fault(NONE, wordLines('a', 'k'), "word 0 l");
        fault(9, wordLines('a', 'k'), "word 0 l;word 0 m");
    }

    private static void wordsAsTheyCome() {
        checks.about("WORDS are 0, 1 .. as they come");
        ThirdLetter x = Checks.told("word 2 zz;word 1 a;word 0 mmm", "word 1 b");
        int[] lengths = {2, 1, 3, 1};
        int[] sorts = {2, 1, 0, 1};
        int[] firsts = {26, 1, 13, 2};
        for (int word = 0; word < 4; word++) {
            due("letters of " + word, x.word(word, 0), lengths[word]);
            due("sort of " + word, x.word(word, 1), sorts[word]);
            due("first letter of " + word, x.word(word, 10), firsts[word]);
        }
        Checks.tell(x, "free;word 2 q");
        due("the first behind free", x.word(0, 10), 17);
        due("no other", x.word(1, 0), UNKNOWN);
    }

    private static void lettersOneToTen() {
        checks.about("1 to 10 LETTERS");
        fault(6, "word 0");
        fault(7, "word 0 ;free");
        String ten = "abcdefghij";
        for (int n = 1; n <= 10; n++) {
            fault(NONE, "word 0 " + ten.substring(0, n));
            due(n + " letters", Checks.told("word 0 " + ten.substring(0, n)).word(0, 0), n);
        }
        fault(7, "word 0 abcdefghijk");
        fault(7, "word 0 " + "a".repeat(193));
    }

    private static void lettersAToZ() {
        checks.about("LETTERS a .. z");
        ThirdLetter x = Checks.told("word 0 az");
        due("a", x.word(0, 10), 1);
        due("z", x.word(0, 11), 26);
        for (char c : new char[] {'`', '{', 'A', 'Z', '@', '[', 0, 127, 225, 255}) {
            fault(7, "word 0 " + c);
            fault(8, "word 0 a" + c);
            fault(7, "word 0 " + c + "a");
        }
        fault(7, "word 0 0");
        fault(8, "word 0 a0");
    }

    private static void sortsZeroToTwo() {
        checks.about("of a SORT (0 .. 2)");
        for (int sort = 0; sort <= 2; sort++) {
            fault(NONE, "word " + sort + " a");
            due("sort", Checks.told("word " + sort + " a").word(0, 1), sort);
        }
        fault(5, "word 3 a");
        fault(5, "word 10 a");
        fault(5, "word a");
    }

    private static void allMayFollowAtFirst() {
        checks.about("SORT b MAY FOLLOW SORT a or not (all may at first)");
        due("count(7)", new ThirdLetter().count(7), 511);
        for (int pair = 0; pair < 9; pair++) {
            ThirdLetter x = Checks.told("word 0 a;word 1 b;word 2 c");
            due("the first", x.preach(pair / 3), 1);
            due("sort " + pair % 3 + " behind " + pair / 3, x.preach(pair % 3), 2);
        }
    }

    private static void noneAwayHoarseLateAtFirst() {
        checks.about("some are AWAY, some HOARSE (none at first), each is LATE (0 at first)");
        ThirdLetter x = new ThirdLetter();
        for (int i = 0; i < 9; i++) due("voice(" + i / 3 + ", " + i % 3 + ")", x.voice(i / 3, i % 3), 0);
    }

    private static void allAwayHoarseLate() {
        checks.about("AWAY, HOARSE, LATE: all of five");
        ThirdLetter x = Checks.told("order 5;away 0;away 1;away 2;away 3;away 4",
            "hoarse 0;hoarse 1;hoarse 2;hoarse 3;hoarse 4;late 0 3;late 1 3;late 2 3;late 3 3;late 4 3");
        int[] most = {1, 1, 3};
        for (int i = 0; i < 15; i++) due("voice(" + i / 3 + ", " + i % 3 + ")", x.voice(i / 3, i % 3), most[i % 3]);
        Checks.tell(x, "away 4;hoarse 4;late 4 3");
        for (int what = 0; what < 3; what++) due("once more, " + what, x.voice(4, what), most[what]);
    }

    private static void lateZeroToThree() {
        checks.about("LATE by 0 .. 3 LETTERS");
        for (int n = 0; n <= 3; n++) {
            fault(NONE, "late 2 " + n);
            due("late by " + n, Checks.told("late 2 1;late 2 " + n).voice(2, 2), n);
        }
        fault(7, "late 2 4");
        fault(7, "late 2 30");
    }

    private static void bytesTwoHundredAtMost() {
        checks.about("THE TEXT is a row of bytes, 200 at most");
        ThirdLetter x = new ThirdLetter();
        due("none", x.count(6), 0);
        Checks.write(x, "free" + " ".repeat(188));
        due("192", x.count(6), 192);
        due("9 is outside", x.write(0, 9), OUTSIDE);
        due("8 more", x.write(0x2020202020202020L, 8), 200);
        due("one more", x.write(32, 1), FULL);
        due("200", x.count(6), 200);
        due("its fault", x.fault(), NONE);
        due("its lines", x.order(), 1);
        for (int n = 2; n <= 8; n++) {
            ThirdLetter y = new ThirdLetter();
            Checks.write(y, " ".repeat(201 - n));
            due(n + " behind " + (201 - n), y.write(0, n), FULL);
            due("no part of them", y.count(6), 201 - n);
            due(n - 1 + " behind " + (201 - n), y.write(0, n - 1), 200);
        }
    }

    private static void bytesOneToEight() {
        checks.about("2: n (1 .. 8) bytes more, byte i being bytes >> 8 i & 255");
        ThirdLetter x = new ThirdLetter();
        due("n 0", x.write(0x61, 0), OUTSIDE);
        due("n 9", x.write(0x61, 9), OUTSIDE);
        due("none", x.count(6), 0);
        // "word 0 a", then "bcdefghi" cut to its first n bytes: byte i is the i-th from below
        for (int n = 1; n <= 8; n++) {
            ThirdLetter y = new ThirdLetter();
            y.write(0x6120302064726f77L, 8);
            due("n " + n, y.write(0x6968676665646362L, n), 8 + n);
            due("one line", y.order(), 1);
            due("letters", y.word(0, 0), 1 + n);
            for (int k = 0; k <= n; k++) due("letter " + k, y.word(0, 10 + k), k + 1);
        }
    }

    private static void bytesAnyValue() {
        checks.about("2: a byte is 0 .. 255");
        ThirdLetter x = Checks.told("word 0 a");
        due("the highest byte of eight, 255", x.write(0xff20202020202020L, 8), 8);
        due("fault()", x.fault(), 7);
        x.erase();
        due("zero alone", x.write(0, 1), 1);
        due("fault()", x.fault(), 0);
        x.erase();
        due("bits above are left out", x.write(0x7fffffff65657266L, 4), 4);
        due("fault()", x.fault(), NONE);
        x.erase();
        due("a negative row", x.write(-1, 1), 1);
        due("one byte", x.count(6), 1);
        due("fault()", x.fault(), 0);
        x.erase();
        due("'z' the highest of eight", x.write(0x7a20302064726f77L, 8), 8);
        due("order()", x.order(), 1);
        due("z", x.word(1, 10), 26);
    }

    private static void linesTwelveAtMost() {
        checks.about("LINES, 12 at most");
        String eleven = "free;".repeat(10) + "free";
        fault(NONE, eleven);
        fault(NONE, eleven + ";free");
        fault(59, eleven + ";free;free");
        fault(59, eleven + ";free;");
        fault(59, eleven + ";free;zz");
        fault(60, eleven + ";free ;free");
        fault(55, eleven + ";");
        due("twelve are done", Checks.tell(new ThirdLetter(), eleven + ";away 2"), 12);
        // twelve lines of two hundred bytes
        StringBuilder most = new StringBuilder();
        for (char c = 'a'; c < 'k'; c++) most.append("word 0 abcdefghi").append(c).append(';');
        most.append("word 2 abc;late 02 3");
        due("bytes", most.length(), 200);
        ThirdLetter x = new ThirdLetter();
        due("lines", Checks.tell(x, most.toString()), 12);
        due("words", x.count(1), 11);
        due("the last line", x.voice(2, 2), 3);
    }

    private static void linesAtLeastOne() {
        checks.about("no line where one is due");
        fault(0, "");
        fault(1, " ");
        fault(200, " ".repeat(200));
        fault(0, ";");
        fault(0, ";;");
        fault(0, ";free");
        fault(5, "free;");
        fault(6, "free; ");
        fault(5, "free;;free");
        fault(6, "free; ;free");
    }

    private static void semicolonBetweenLines() {
        checks.about("LINES with ; (59) between");
        fault(NONE, "free;free");
        for (char c : new char[] {':', '<', ',', '.', 0, 10, 187, 255}) fault(4, "free" + c + "free");
        fault(5, "free free");
        fault(0, "freefree");
        fault(8, "order 3 order 3");
    }

    private static void orderLineMakesVoicesAnew() {
        checks.about("order: V VOICES, none AWAY, HOARSE, LATE");
        String all = "order 5;away 0;away 4;hoarse 0;hoarse 4;late 0 3;late 4 3";
        for (int v = 1; v <= 5; v++) {
            ThirdLetter x = Checks.told(all, "order " + v);
            for (int i = 0; i < 3 * v; i++) due("voice " + i / 3 + ", " + i % 3, x.voice(i / 3, i % 3), 0);
            Checks.tell(x, "order 5");
            for (int i = 0; i < 15; i++) due("then five, voice " + i / 3 + ", " + i % 3, x.voice(i / 3, i % 3), 0);
        }
        ThirdLetter x = Checks.told("word 2 a;not 1 2", "order 5");
        due("words stay", x.count(1), 1);
        due("who may follow stays", x.count(7), 511 - 32);
    }

    private static void thirteenthWordAtItsWord() {
        checks.about("a thirteenth cannot stand there: at its word");
        String twelve = wordLines('a', 'l');
        fault(0, twelve, "word 0 m");
        fault(2, twelve, "  word 0 m");
        fault(0, twelve, "word");
        fault(0, twelve, "word 9");
        fault(0, twelve, "word 0 a");
        fault(8, twelve, "order 3;word 0 m");
        fault(NONE, twelve, "free;word 0 m");
        fault(5, twelve, "free;xx");
        fault(NONE, twelve, "away 1");
        fault(18, wordLines('a', 'j'), "word 1 k;word 2 l;word 0 m");
    }

    private static void toldWordAtItsLetters() {
        checks.about("one that is told cannot stand there: at its LETTERS");
        fault(7, "word 0 ab", "word 0 ab");
        fault(9, "word 0 ab", "word 2   ab");
        fault(17, "word 0 ab;word 1 ab");
        fault(7, "word 1 abcdefghij", "word 1 abcdefghij");
        fault(NONE, "word 0 abcdefghij", "word 0 abcdefghii");
        fault(NONE, "word 0 ab", "word 0 a;word 0 b;word 0 abc;word 0 ba;word 0 bb;word 0 aa");
        fault(NONE, "word 0 ab", "free;word 0 ab");
        fault(7, "word 0 ab", "word 0 ab;free");
        fault(7, wordLines('a', 'k'), "word 0 k");
        fault(7, wordLines('a', 'k'), "word 0 a");
    }

    private static void notOneOfNinePairs() {
        checks.about("not: SORT B MAY not FOLLOW A");
        for (int a = 0; a <= 2; a++) {
            for (int b = 0; b <= 2; b++) {
                ThirdLetter x = Checks.told("word 0 a;word 1 b;word 2 c;not " + a + " " + b);
                due("count(7)", x.count(7), 511 - (1 << 3 * a + b));
                for (int pair = 0; pair < 9; pair++) {
                    x.amen();
                    x.preach(pair / 3);
                    int want = pair == 3 * a + b ? NOT : 2;
                    due(pair % 3 + " behind " + pair / 3, x.preach(pair % 3), want);
                }
            }
        }
        fault(4, "not 3 0");
        fault(6, "not 0 3");
        fault(4, "not 3 3");
        ThirdLetter none = Checks.told("not 0 0;not 0 1;not 0 2;not 1 0;not 1 1;not 1 2;not 2 0;not 2 1;not 2 2",
            "not 2 2");
        due("none may", none.count(7), 0);
    }

    private static void freeAtNothingAndAtTheMost() {
        checks.about("free: no WORDS, all SORTS MAY FOLLOW");
        ThirdLetter x = new ThirdLetter();
        due("at nothing", Checks.tell(x, "free"), 1);
        due("no words", x.count(1), 0);
        Checks.tell(x, wordLines('a', 'l'));
        Checks.tell(x, "not 0 0;not 1 1;not 2 2;not 0 2;order 5;away 4;hoarse 3;late 2 1");
        due("at twelve", Checks.tell(x, "free"), 1);
        due("no words", x.count(1), 0);
        due("word(0, 0)", x.word(0, 0), UNKNOWN);
        due("all may", x.count(7), 511);
        due("voices stay", x.count(0), 5);
        due("away stays", x.voice(4, 0), 1);
        due("hoarse stays", x.voice(3, 1), 1);
        due("late stays", x.voice(2, 2), 1);
        due("twelve again", Checks.tell(x, wordLines('a', 'l')), 12);
    }

    private static void voicesBehindTheLinesAhead() {
        checks.about("I a VOICE that there is behind the LINES ahead");
        for (String name : new String[] {"away ", "here ", "hoarse ", "clear ", "late "}) {
            String more = name.equals("late ") ? " 3" : "";
            int at = name.length();
            fault(NONE, name + 2 + more);
            fault(at, name + 3 + more);
            fault(at, name + 99 + more);
            fault(NONE, "order 1;" + name + 0 + more);
            fault(8 + at, "order 1;" + name + 1 + more);
            fault(NONE, "order 5;" + name + 4 + more);
            fault(8 + at, "order 5;" + name + 5 + more);
            fault(at, name + 3 + more + ";order 5");
            fault(NONE, name + 2 + more + ";order 1");
            fault(NONE, "order 5", name + 4 + more);
            fault(at, "order 2", name + 2 + more);
            fault(16 + at, "order 5;order 4;" + name + 4 + more);
        }
    }

    private static void hereAndClearOfThoseWhoAre() {
        checks.about("here: not AWAY; clear: not HOARSE; each of its VOICE alone");
        String all = "away 0;away 1;away 2;hoarse 0;hoarse 1;hoarse 2;late 0 1;late 1 2;late 2 3";
        for (int voice = 0; voice < 3; voice++) {
            ThirdLetter x = Checks.told(all, "here " + voice);
            ThirdLetter y = Checks.told(all, "clear " + voice);
            for (int other = 0; other < 3; other++) {
                int without = other == voice ? 0 : 1;
                due("here: away", x.voice(other, 0), without);
                due("here: hoarse", x.voice(other, 1), 1);
                due("here: late", x.voice(other, 2), other + 1);
                due("clear: away", y.voice(other, 0), 1);
                due("clear: hoarse", y.voice(other, 1), without);
                due("clear: late", y.voice(other, 2), other + 1);
            }
        }
        ThirdLetter x = Checks.told("here 1;clear 1");
        due("one who was here", x.voice(1, 0), 0);
        due("one who was clear", x.voice(1, 1), 0);
    }

    private static void numbersOfOneOrTwoDigits() {
        checks.about("numbers of 1 or 2 digits");
        fault(NONE, "order 5");
        fault(NONE, "order 05");
        fault(6, "order 005");
        fault(6, "order 0000000000000000000000005");
        fault(6, "order 4294967299");
        fault(6, "order 18446744073709551619");
        fault(NONE, "late 00 00");
        fault(5, "late 000 0");
        fault(7, "late 0 000");
        fault(NONE, "word 02 a");
        fault(5, "word 002 a");
        fault(NONE, "not 01 02");
        fault(4, "not 001 02");
        fault(7, "not 01 002");
        due("it is its value", Checks.told("late 02 03").voice(2, 2), 3);
        fault(6, "order " + "3".repeat(194));
    }

    private static void numbersInTheirBounds() {
        checks.about("a number out of its bounds");
        for (int n = 0; n <= 99; n++) {
            for (String number : new String[] {"" + n, n < 10 ? "0" + n : "" + n}) {
                fault(n >= 1 && n <= 5 ? NONE : 6, "order " + number);
                fault(n <= 2 ? NONE : 5, "word " + number + " a");
                fault(n <= 2 ? NONE : 4, "not " + number + " 0");
                fault(n <= 2 ? NONE : 6, "not 0 " + number);
                fault(n <= 2 ? NONE : 5, "away " + number);
                fault(n <= 2 ? NONE : 5, "here " + number);
                fault(n <= 2 ? NONE : 7, "hoarse " + number);
                fault(n <= 2 ? NONE : 6, "clear " + number);
                fault(n <= 2 ? NONE : 5, "late " + number + " 0");
                fault(n <= 3 ? NONE : 7, "late 0 " + number);
            }
        }
    }

    private static void digitsZeroToNine() {
        checks.about("a row of digits");
        for (char c : new char[] {'/', ':', '-', '+', '.', 178, 0}) {
            fault(6, "order " + c);
            fault(6, "order " + c + "3");
            fault(7, "order 3" + c);
        }
        fault(6, "order a");
        fault(6, "order a3");
        fault(7, "order 3a");
        fault(8, "order 3 3");
    }

    private static void blanksBetween() {
        checks.about("blanks (32) between");
        fault(NONE, "order 3");
        fault(NONE, "order   3");
        fault(NONE, "  order 3  ");
        fault(NONE, "free ; free");
        fault(NONE, "late" + " ".repeat(97) + "0" + " ".repeat(97) + "3");
        for (char c : new char[] {31, 33, 9, 10, 13, 0, '_', 160, 255}) {
            fault(5, "order" + c + "3");
            fault(0, c + "free");
            fault(4, "free" + c);
            fault(8, "word 0 a" + c + "b");
        }
        fault(0, "or der 3");
        fault(9, "word 0 a b");
        fault(8, "order 1 3");
    }

    private static void elevenLettersTooMany() {
        checks.about("LETTERS that are a row of more than 10 are too many");
        for (int n = 11; n <= 13; n++) fault(7, "word 0 " + "a".repeat(n));
        fault(NONE, "word 0 " + "a".repeat(10));
        fault(12, "free;word 1 " + "a".repeat(11) + ";free");
        // ten and one more are two tokens if a blank is between
        fault(18, "word 0 aaaaaaaaaa a");
    }

    private static void firstTokenThatCannotStand() {
        checks.about("a FAULT is at the first TOKEN that cannot stand there");
        String[] wrong = {"zz", "77", "123", ".", "Z"};
        for (String[] line : LINES) {
            int place = 0;
            for (int i = 0; i < line.length; i++) {
                for (String other : wrong) {
                    boolean letters = i == 2 && line[0].equals("word") && other.equals("zz");
                    String text = String.join(" ", line).substring(0, place) + other + tailOf(line, i);
                    if (!letters) fault(place, text);
                    if (!letters) fault(5 + place, "free;" + text);
                    // another fault behind it is not the first
                    if (!letters) fault(place, text + ";order 9;zz");
                }
                place += line[i].length() + 1;
            }
        }
        fault(6, "order 9;order 8");
    }

    private static void namesLetterByLetter() {
        checks.about("each is one of: order, word, not, free, away, here, hoarse, clear, late");
        for (String[] line : LINES) {
            String name = line[0];
            String tail = tailOf(line, 0);
            fault(NONE, name + tail);
            fault(0, name + "s" + tail);
            fault(0, name + name + tail);
            fault(0, name.toUpperCase() + tail);
            for (int i = 0; i < name.length(); i++) {
                fault(0, name.substring(0, i) + "z" + name.substring(i + 1) + tail);
                fault(0, name.substring(0, i) + name.substring(i + 1) + tail);
            }
        }
    }

    private static String tailOf(String[] line, int i) {
        StringBuilder tail = new StringBuilder();
        for (int k = i + 1; k < line.length; k++) tail.append(' ').append(line[k]);
        return tail.toString();
    }

    private static void anyOtherByteIsAToken() {
        checks.about("a TOKEN is a row of small letters, a row of digits, any other byte");
        for (int b = 0; b < 256; b++) {
            boolean inRow = b == ' ' || b >= 'a' && b <= 'z' || b >= '0' && b <= '9' || b == ';';
            if (!inRow) fault(4, "free" + (char) b);
            if (!inRow) fault(0, (char) b + "free");
            if (!inRow) fault(7, "free;  " + (char) b + (char) b);
        }
        fault(0, "aaaa");
        fault(0, "12");
        fault(7, "order 3z");
        fault(9, "word 0 ab1");
        fault(10, "word 0 ab 1");
    }

    private static void endTooSoon() {
        checks.about("or at the end, if it comes too soon");
        for (String[] line : LINES) {
            String text = "";
            for (int i = 0; i < line.length; i++) {
                fault(text.length(), text);
                fault(text.length() + 3, text + "   ");
                fault(5 + text.length(), "free;" + text);
                fault(text.length(), text + ";free");
                text += (i == 0 ? "" : " ") + line[i];
            }
            fault(NONE, text);
            fault(NONE, text + "   ");
            fault(text.length() + 1, text + ";");
            fault(text.length() + 3, text + ";  ");
        }
    }

    private static void tokenTooMany() {
        checks.about("a token too many");
        for (String[] line : LINES) {
            String text = String.join(" ", line);
            for (String more : new String[] {"0", "a", "free", ".", ",", "00"}) {
                fault(text.length() + 1, text + " " + more);
                fault(text.length() + 2, text + "  " + more + ";free");
            }
        }
    }

    private static void linesInTheirOrder() {
        checks.about("LINES are done in their order");
        ThirdLetter x = Checks.told("word 0 a;free;word 1 b;word 2 a");
        due("words", x.count(1), 2);
        due("the first", x.word(0, 10), 2);
        due("the second's sort", x.word(1, 1), 2);
        ThirdLetter y = Checks.told("late 1 3;late 1 1;away 2;here 2;here 0;away 0;hoarse 1;order 4;hoarse 3;order 5");
        due("voices", y.count(0), 5);
        for (int i = 0; i < 15; i++) due("voice " + i / 3 + ", " + i % 3, y.voice(i / 3, i % 3), 0);
        ThirdLetter z = Checks.told("not 1 0;free;not 0 1;late 2 3;late 2 2;here 1;away 1;clear 1;hoarse 1");
        due("who may follow", z.count(7), 511 - 2);
        due("late", z.voice(2, 2), 2);
        due("away", z.voice(1, 0), 1);
        due("hoarse", z.voice(1, 1), 1);
    }

    private static void behindATextAllIsEmpty() {
        checks.about("behind them THE SERMON and SOUND are empty, nothing is said, nothing is kept");
        for (String text : new String[] {"free", "here 0", "order 3", "word 0 b", "not 2 2", "late 0 0", "clear 2"}) {
            ThirdLetter x = Checks.told("word 0 abcdefghij;not 0 0", "here 1");
            x.preach(0);
            x.say(7);
            x.keep(0);
            x.keep(1);
            x.listen();
            due("order()", Checks.tell(x, text), 1);
            for (int what = 2; what <= 6; what++) due("count(" + what + ")", x.count(what), 0);
            due("heard(0)", x.heard(0), NONE);
            due("tally(0)", x.tally(0), 0);
            due("tally(1)", x.tally(1), 0);
            due("tally(2)", x.tally(2), NONE);
            due("voice(0, 3)", x.voice(0, 3), 0);
            due("back(0)", x.back(0), NOT);
            due("back(1)", x.back(1), NOT);
            due("hush()", x.hush(), 0);
            due("amen()", x.amen(), 0);
            if (!text.equals("free")) due("no word is ahead", x.preach(0), 10);
        }
    }

    private static void erasedToNothing() {
        checks.about("3: THE TEXT is empty: how many bytes it had");
        ThirdLetter x = new ThirdLetter();
        due("none", x.erase(), 0);
        x.write('f', 1);
        due("one", x.erase(), 1);
        due("none", x.erase(), 0);
        Checks.write(x, "z".repeat(200));
        due("two hundred", x.erase(), 200);
        due("count(6)", x.count(6), 0);
        due("fault()", x.fault(), 0);
        due("room again", x.write(0x65657266L, 4), 4);
        due("nothing of the old", x.order(), 1);
    }

    private static void oldBytesAreNotRead() {
        checks.about("THE TEXT is empty then: what stood behind its end before is not read");
        for (String[] line : LINES) {
            String whole = String.join(" ", line);
            for (int cut = 0; cut < whole.length(); cut++) {
                String part = whole.substring(0, cut);
                ThirdLetter fresh = new ThirdLetter();
                Checks.write(fresh, part);
                int want = fresh.fault();
                ThirdLetter erased = new ThirdLetter();
                Checks.write(erased, whole + ";zz;zz");
                erased.erase();
                Checks.write(erased, part);
                due("'" + part + "' behind an erased '" + whole + "'", erased.fault(), want);
                ThirdLetter done = Checks.told(whole, "free;order 3");
                Checks.write(done, part);
                due("'" + part + "' behind a done '" + whole + "'", done.fault(), want);
            }
        }
    }

    private static void faultAtTheLength() {
        checks.about("4: the place of the FAULT (the byte with which the TOKEN begins, or the length); NONE");
        due("a new object", new ThirdLetter().fault(), 0);
        fault(196, " ".repeat(196) + "fre");
        fault(NONE, " ".repeat(196) + "free");
        fault(199, "free" + " ".repeat(195) + "x");
        fault(200, "free" + " ".repeat(195) + ";");
        fault(200, " ".repeat(195) + "order");
        fault(200, " ".repeat(194) + "word 0");
        fault(200, " ".repeat(194) + "late 0");
        fault(190, " ".repeat(190) + "abcdefghij");
        fault(193, " ".repeat(186) + "word 0 abcdefg", " ".repeat(186) + "word 0 abcdefg");
    }

    private static void orderHowManyLines() {
        checks.about("5: THE TEXT's LINES are done, and it is empty then: how many there were. NOT: it has a FAULT");
        for (int lines = 1; lines <= 12; lines++) {
            ThirdLetter x = new ThirdLetter();
            due(lines + " lines", Checks.tell(x, "free" + ";free".repeat(lines - 1)), lines);
            due("bytes", x.count(6), 0);
            due("once more", x.order(), NOT);
        }
        ThirdLetter x = new ThirdLetter();
        due("none", x.order(), NOT);
        due("a fault in the last of its lines", Checks.tell(x, "order 5;word 0 a;late 4 3;not 0 0;away 5"), NOT);
        due("no voices", x.count(0), 3);
        due("no words", x.count(1), 0);
        due("who may follow", x.count(7), 511);
        due("it stands", x.count(6), 40);
        due("and its fault", x.fault(), 39);
        due("what is written stands behind it", x.write('0', 1), 41);
        due("50 is two digits", x.fault(), 39);
    }

    private static void wordWhat() {
        checks.about("6: what (0, 1, 10 .. 19); NONE: it has not so many");
        ThirdLetter x = Checks.told("word 2 z;word 1 abcdefghij");
        due("one letter", x.word(0, 0), 1);
        due("ten letters", x.word(1, 0), 10);
        due("its sort", x.word(0, 1), 2);
        due("letter 0", x.word(0, 10), 26);
        for (int k = 1; k <= 9; k++) due("letter " + k + " of one", x.word(0, 10 + k), NONE);
        for (int k = 0; k <= 9; k++) due("letter " + k + " of ten", x.word(1, 10 + k), k + 1);
        for (int what : new int[] {-1, 2, 9, 20, Integer.MIN_VALUE, Integer.MAX_VALUE}) {
            due("what " + what, x.word(0, what), OUTSIDE);
        }
        due("word -1", x.word(-1, 0), UNKNOWN);
        due("word 2", x.word(2, 0), UNKNOWN);
        due("word 2, what 2", x.word(2, 2), UNKNOWN);
    }

    private static void voiceWhat() {
        checks.about("7: AWAY (what 0), HOARSE (1), LATE (2), LETTERS that it has said (3)");
        ThirdLetter x = Checks.told("order 2;word 0 abc;away 0;hoarse 1;late 0 3;late 1 1");
        int[][] want = {{1, 0, 3, 0}, {0, 1, 1, 0}};
        for (int voice = 0; voice < 2; voice++) {
            for (int what = 0; what < 4; what++) due(voice + ", what " + what, x.voice(voice, what), want[voice][what]);
        }
        for (int what : new int[] {-1, 4, Integer.MIN_VALUE, Integer.MAX_VALUE}) {
            due("what " + what, x.voice(1, what), OUTSIDE);
            due("voice 2, what " + what, x.voice(2, what), UNKNOWN);
        }
        due("voice -1", x.voice(-1, 3), UNKNOWN);
    }
}
