/** The document's promises one by one: ordinary inputs, the edges it names, wrong inputs. */
public final class PromiseTests {
    private static final int NONE = ThirdLetter.NONE, UNKNOWN = ThirdLetter.UNKNOWN, OUTSIDE = ThirdLetter.OUTSIDE;
    private static final int NOT = ThirdLetter.NOT, FULL = ThirdLetter.FULL;
    private static final String TWELVE = "free;word 0 a;word 0 b;word 0 c;word 0 d;word 0 e;word 0 f;word 0 g;word 0 h";
    private static final String TWELVE_MORE = "word 0 i;word 0 j;word 0 k;word 0 l";

    private static final Checks checks = new Checks("promises");

    private PromiseTests() {
    }

    public static void main(String[] args) {
        p01NewObject();
        p02Write();
        p03Erase();
        p04FaultOfForms();
        p04FaultOfNumbers();
        p04FaultOfWords();
        p04FaultOfLines();
        p04FaultOfVoices();
        p05Order();
        p05OrderDoesEachLine();
        p06Word();
        p07Voice();
        p08Preach();
        p09Amen();
        p10Say();
        p11Heard();
        p12Tally();
        p13Sound();
        p14Listen();
        p15Hush();
        p16Fits();
        p17Readings();
        p18Came();
        p19Alone();
        p20Twins();
        p21Learnt();
        p22Seats();
        p23Bears();
        p24Keep();
        p25Back();
        p26Count();
        checks.end();
    }

    private static void due(String call, long got, long want) {
        checks.due(call, got, want);
    }

    private static void p01NewObject() {
        checks.about("1 a new object");
        ThirdLetter x = new ThirdLetter();
        int[] counts = {3, 0, 0, 0, 0, 0, 0, 511};
        for (int what = 0; what < 8; what++) due("count(" + what + ")", x.count(what), counts[what]);
        for (int voice = 0; voice < 3; voice++) {
            for (int what = 0; what < 4; what++) due("voice(" + voice + ", " + what + ")", x.voice(voice, what), 0);
        }
        due("fault()", x.fault(), 0);
        due("back(0)", x.back(0), NOT);
        due("back(1)", x.back(1), NOT);
    }

    private static void p02Write() {
        checks.about("2 write");
        ThirdLetter x = new ThirdLetter();
        due("n 0", x.write(0, 0), OUTSIDE);
        due("n -1", x.write(0, -1), OUTSIDE);
        due("n 9", x.write(0, 9), OUTSIDE);
        due("n far", x.write(0, Integer.MIN_VALUE), OUTSIDE);
        due("count(6)", x.count(6), 0);
        // "free;fre": the low byte comes first, bytes above the n-th are left out
        due("free;fre", x.write(0x6572663b65657266L, 8), 8);
        due("e", x.write(0xffffff65L, 1), 9);
        due("fault()", x.fault(), NONE);
        due("order()", x.order(), 2);
        // a byte above 127 is one byte, and so is the highest of eight
        due("high bytes", x.write(-1L, 8), 8);
        due("fault()", x.fault(), 0);
        x.erase();
        for (int i = 1; i <= 24; i++) due("pack " + i, x.write(0x2020202020202020L, 8), 8 * i);
        due("196", x.write(0x20202020L, 4), 196);
        due("5 more", x.write(0, 5), FULL);
        due("9 is outside first", x.write(0, 9), OUTSIDE);
        due("count(6)", x.count(6), 196);
        due("4 more", x.write(0x65657266L, 4), 200);
        due("201", x.write(32, 1), FULL);
        due("all 200 are read", x.order(), 1);
    }

    private static void p03Erase() {
        checks.about("3 erase");
        ThirdLetter x = Checks.told("word 0 ab;order 2");
        due("empty", x.erase(), 0);
        Checks.write(x, "free;order 5");
        due("12", x.erase(), 12);
        due("again", x.erase(), 0);
        due("count(6)", x.count(6), 0);
        due("words stay", x.count(1), 1);
        due("voices stay", x.count(0), 2);
    }

    private static void faults(ThirdLetter x, String text, int want) {
        due("fault of '" + text + "'", Checks.faultOf(x, text), want);
    }

    private static void p04FaultOfForms() {
        checks.about("4 fault: forms");
        ThirdLetter x = new ThirdLetter();
        String[] right = {"order 3", "word 0 a", "not 0 1", "free", "away 0", "here 0", "hoarse 0", "clear 0",
            "late 0 1", "  free  ", "free ; free", "late   2    3  ;free", "late2 3", "word 0a", "order2;free"};
        for (String text : right) faults(x, text, NONE);
        String[] tooSoon = {"", "   ", "order", "word", "word 0", "not", "not 0", "away", "here ", "hoarse", "clear",
            "late", "late 0", "late 0  ", "free;", "free; "};
        for (String text : tooSoon) faults(x, text, text.length());
        String[] tooMuch = {"order 3 3", "word 0 a b", "not 0 1 2", "free x", "away 0 0", "late 0 1 1"};
        for (String text : tooMuch) faults(x, text, text.length() - 1);
        String[] atOnce = {"orders 3", "orde 3", "Free", "3", ";", ";free", "\tfree", "x", "words 0 a", "\u00e9",
            "\0", "bree", "xate 0 1"};
        for (String text : atOnce) faults(x, text, 0);
        faults(x, "  ;", 2);
        faults(x, "free;;free", 5);
        faults(x, "free, free", 4);
        faults(x, "free\nfree", 4);
        faults(x, "word a", 5);
        faults(x, "word 0 ;", 7);
        faults(x, "word 0 Ab", 7);
        faults(x, "word 0 aB", 8);
        faults(x, "not 0 a", 6);
        faults(x, "order three", 6);
        faults(x, "order -1", 6);
    }

    private static void p04FaultOfNumbers() {
        checks.about("4 fault: numbers");
        ThirdLetter x = new ThirdLetter();
        for (int v : new int[] {0, 1, 5, 6, 10, 99}) faults(x, "order " + v, v >= 1 && v <= 5 ? NONE : 6);
        for (int s : new int[] {0, 2, 3, 4, 10, 99}) {
            faults(x, "word " + s + " a", s <= 2 ? NONE : 5);
            faults(x, "not " + s + " 0", s <= 2 ? NONE : 4);
            faults(x, "not 0 " + s, s <= 2 ? NONE : 6);
            faults(x, "late 0 " + s, s <= 3 ? NONE : 7);
        }
        faults(x, "order 05", NONE);
        faults(x, "order 00", 6);
        faults(x, "order 005", 6);
        faults(x, "order 4294967297", 6);
        faults(x, "late 02 03", NONE);
        faults(x, "late 02 003", 8);
        faults(x, "not 01", 6);
    }

    private static void p04FaultOfWords() {
        checks.about("4 fault: words");
        ThirdLetter x = new ThirdLetter();
        faults(x, "word 0 abcdefghij", NONE);
        faults(x, "word 0 abcdefghijk", 7);
        faults(x, "word 2 order;word 1 free;word 0 word", NONE);
        faults(x, "word 0 ab;word 0 ab", 17);
        faults(x, "word 0 ab;word 2 ab", 17);
        faults(x, "word 0 ab;word 2 abc;word 1 a", NONE);
        faults(x, "word 0 ab;free;word 2 ab", NONE);
        Checks.tell(x, "word 0 ab");
        faults(x, "word 1 ab", 7);
        faults(x, "word 1 ba", NONE);
        faults(x, "free;word 1 ab", NONE);
        ThirdLetter full = Checks.told(TWELVE, TWELVE_MORE);
        due("count(1)", full.count(1), 12);
        faults(full, "word 0 m", 0);
        faults(full, "free;word 0 m", NONE);
        faults(full, "word", 0);
        faults(full, "order 2 ; word 9", 10);
        ThirdLetter eleven = Checks.told(TWELVE, "word 0 i;word 0 j;word 0 k");
        faults(eleven, "word 0 l", NONE);
        faults(eleven, "word 0 l;word 0 m", 9);
        faults(eleven, "word 0 k;word 0 m", 7);
    }

    private static void p04FaultOfLines() {
        checks.about("4 fault: lines");
        ThirdLetter x = new ThirdLetter();
        String eleven = "free;free;free;free;free;free;free;free;free;free;free";
        faults(x, eleven + ";free", NONE);
        faults(x, eleven + ";free ", NONE);
        faults(x, eleven + ";free;free", 59);
        faults(x, eleven + ";free  ;free", 61);
        faults(x, eleven + ";free;", 59);
        faults(x, eleven + ";", 55);
        Checks.write(x, "free;away 1 x");
        due("fault()", x.fault(), 12);
        due("it stands after fault()", x.count(6), 13);
        due("fault() again", x.fault(), 12);
    }

    private static void p04FaultOfVoices() {
        checks.about("4 fault: voices");
        ThirdLetter x = new ThirdLetter();
        for (String name : new String[] {"away", "here", "hoarse", "clear"}) {
            int at = name.length() + 1;
            faults(x, name + " 2", NONE);
            faults(x, name + " 3", at);
            faults(x, "order 1;" + name + " 1", 8 + at);
            faults(x, "order 5;" + name + " 4", NONE);
            faults(x, name + " 4;order 5", at);
        }
        faults(x, "late 3 9", 5);
        faults(x, "order 4;late 3 3", NONE);
        faults(x, "order 5;order 2;late 2 3", 21);
        Checks.tell(x, "order 5");
        faults(x, "away 4", NONE);
        faults(x, "away 5", 5);
    }

    private static void p05Order() {
        checks.about("5 order");
        ThirdLetter x = new ThirdLetter();
        due("no text", x.order(), NOT);
        due("one line", Checks.tell(x, "word 0 abc"), 1);
        due("the text is empty", x.count(6), 0);
        x.preach(0);
        x.say(2);
        x.keep(0);
        x.keep(1);
        Checks.soundAs(x, "ab");
        due("a fault at its end", Checks.tell(x, "word 1 b;order 2;away 0;not 0 0;free;x"), NOT);
        due("the text stands", x.erase(), 38);
        int[] counts = {3, 1, 1, 3, 2, 2, 0, 511};
        for (int what = 0; what < 8; what++) due("after NOT, count(" + what + ")", x.count(what), counts[what]);
        due("voice(0, 0)", x.voice(0, 0), 0);
        due("back(1)", x.back(1), 2);
        due("two lines", Checks.tell(x, "here 0;word 1 b"), 2);
        int[] after = {3, 2, 0, 0, 0, 0, 0, 511};
        for (int what = 0; what < 8; what++) due("after it, count(" + what + ")", x.count(what), after[what]);
        due("back(0)", x.back(0), NOT);
        due("back(1)", x.back(1), NOT);
        due("preach(1)", x.preach(1), 1);
    }

    private static void p05OrderDoesEachLine() {
        checks.about("5 order: lines");
        ThirdLetter x = Checks.told("order 4;away 0;away 3;hoarse 1;hoarse 3;late 2 3;late 3 1");
        int[][] states = {{1, 0, 0}, {0, 1, 0}, {0, 0, 3}, {1, 1, 1}};
        voicesAre(x, states);
        Checks.tell(x, "here 3;clear 1;late 2 0;here 1;clear 0");
        voicesAre(x, new int[][] {{1, 0, 0}, {0, 0, 0}, {0, 0, 0}, {0, 1, 1}});
        Checks.tell(x, "word 0 a;not 1 2;not 0 0");
        due("count(7)", x.count(7), 511 - (1 << 5) - 1);
        Checks.tell(x, "order 5");
        voicesAre(x, new int[5][3]);
        due("order leaves words", x.count(1), 1);
        due("order leaves who may follow", x.count(7), 511 - (1 << 5) - 1);
        Checks.tell(x, "late 4 2;away 1;free");
        due("free: no words", x.count(1), 0);
        due("free: all may follow", x.count(7), 511);
        voicesAre(x, new int[][] {{0, 0, 0}, {1, 0, 0}, {0, 0, 0}, {0, 0, 0}, {0, 0, 2}});
        Checks.tell(x, "not 0 1;free;not 2 0;not 2 0");
        due("in their order", x.count(7), 511 - (1 << 6));
        Checks.tell(x, "late 1 1;order 2;late 0 2;late 0 1");
        voicesAre(x, new int[][] {{0, 0, 1}, {0, 0, 0}});
        Checks.tell(x, "order 3;away 0;away 2;hoarse 0;hoarse 2;late 2 1;order 3");
        voicesAre(x, new int[3][3]);
    }

    private static void voicesAre(ThirdLetter x, int[][] states) {
        due("count(0)", x.count(0), states.length);
        for (int voice = 0; voice < states.length; voice++) {
            for (int what = 0; what < 3; what++) {
                due("voice(" + voice + ", " + what + ")", x.voice(voice, what), states[voice][what]);
            }
        }
    }

    private static void p06Word() {
        checks.about("6 word");
        ThirdLetter x = Checks.told("word 2 az;word 0 abcdefghij;word 1 z");
        due("letters of 0", x.word(0, 0), 2);
        due("letters of 1", x.word(1, 0), 10);
        due("sort of 0", x.word(0, 1), 2);
        due("sort of 1", x.word(1, 1), 0);
        due("sort of 2", x.word(2, 1), 1);
        due("letter 0 of 0", x.word(0, 10), 1);
        due("letter 1 of 0", x.word(0, 11), 26);
        due("letter 2 of 0", x.word(0, 12), NONE);
        due("letter 9 of 0", x.word(0, 19), NONE);
        for (int k = 0; k < 10; k++) due("letter " + k + " of 1", x.word(1, 10 + k), k + 1);
        for (int what : new int[] {-1, 2, 9, 20, Integer.MAX_VALUE, Integer.MIN_VALUE}) {
            due("what " + what, x.word(1, what), OUTSIDE);
            due("no such word comes first", x.word(3, what), UNKNOWN);
        }
        due("word 3", x.word(3, 0), UNKNOWN);
        due("word -1", x.word(-1, 0), UNKNOWN);
        due("word far", x.word(Integer.MAX_VALUE, 10), UNKNOWN);
    }

    private static void p07Voice() {
        checks.about("7 voice");
        ThirdLetter x = Checks.told("word 0 abcdefghij;order 3;away 0;hoarse 1;late 1 1;late 2 2");
        Checks.preachAll(x, 0, 0);
        for (int what : new int[] {-1, 4, Integer.MIN_VALUE}) {
            due("what " + what, x.voice(2, what), OUTSIDE);
            due("no such voice comes first", x.voice(3, what), UNKNOWN);
        }
        due("voice -1", x.voice(-1, 0), UNKNOWN);
        due("nothing is said", x.voice(2, 3), 0);
        x.say(60);
        // voice 1 has letters 1 4 7 10 13 16 19: it says 4 10 16; voice 2 has 2 5 8 11 14 17: it says 8 11 14 17
        due("away says nothing", x.voice(0, 3), 0);
        due("hoarse and late", x.voice(1, 3), 3);
        due("late", x.voice(2, 3), 4);
        due("away", x.voice(0, 0), 1);
        due("hoarse", x.voice(1, 1), 1);
        due("late by", x.voice(2, 2), 2);
        x.amen();
        due("after amen", x.voice(2, 3), 0);
    }

    private static void p08Preach() {
        checks.about("8 preach");
        ThirdLetter x = Checks.told("word 0 abcdefghij;word 1 k;word 2 lm;not 0 2;not 1 1");
        due("word 3", x.preach(3), UNKNOWN);
        due("word -1", x.preach(-1), UNKNOWN);
        due("any may begin", x.preach(2), 2);
        due("0 behind 2", x.preach(0), 12);
        due("2 may not follow 0", x.preach(2), NOT);
        due("nothing changed", x.count(3), 12);
        due("nor its words", x.count(2), 2);
        due("1 behind 0", x.preach(1), 13);
        due("1 may not follow 1", x.preach(1), NOT);
        due("0", x.preach(0), 23);
        due("0", x.preach(0), 33);
        due("0", x.preach(0), 43);
        due("a seventh", x.preach(0), FULL);
        due("NOT comes ahead of FULL", x.preach(2), NOT);
        due("UNKNOWN too", x.preach(12), UNKNOWN);
        x.amen();
        for (int i = 1; i <= 6; i++) due("ten letters each", x.preach(0), 10 * i);
        due("61 letters", x.preach(1), FULL);
        due("count(2)", x.count(2), 6);
    }

    private static void p09Amen() {
        checks.about("9 amen");
        ThirdLetter x = Checks.told("word 0 abc;word 1 de;not 0 0");
        due("none", x.amen(), 0);
        Checks.preachAll(x, 0, 1);
        x.say(2);
        x.listen();
        x.keep(1);
        due("two", x.amen(), 2);
        due("words", x.count(2), 0);
        due("letters", x.count(3), 0);
        due("said", x.count(4), 0);
        due("sound stays", x.count(5), 2);
        due("again", x.amen(), 0);
        due("what is kept stays", x.back(1), 2);
        Checks.preachAll(x, 0);
        due("three", x.amen(), 3);
        due("nothing is ahead", x.preach(0), 3);
    }

    private static void p10Say() {
        checks.about("10 say");
        ThirdLetter x = Checks.told("word 0 abcdefghij");
        due("nothing to say", x.say(1), 0);
        x.preach(0);
        for (int n : new int[] {0, -1, 61, Integer.MAX_VALUE, Integer.MIN_VALUE}) due("n " + n, x.say(n), OUTSIDE);
        due("one", x.say(1), 1);
        due("three more", x.say(3), 4);
        due("six more", x.say(6), 10);
        due("none left", x.say(60), 10);
        x.preach(0);
        due("more was preached", x.say(4), 14);
        due("the rest", x.say(60), 20);
    }

    private static void hears(ThirdLetter x, String want) {
        String row = Checks.heardRow(x);
        checks.holds("heard is " + row + ", due is " + want, row.equals(want));
    }

    private static void p11Heard() {
        checks.about("11 heard");
        ThirdLetter x = Checks.told("word 0 abcdefghij;word 1 klmno");
        due("i -1", x.heard(-1), OUTSIDE);
        due("i far below", x.heard(Integer.MIN_VALUE), OUTSIDE);
        due("i far above", x.heard(Integer.MAX_VALUE), NONE);
        Checks.preachAll(x, 0, 1);
        due("not said yet", x.heard(0), NONE);
        x.say(3);
        hears(x, "abc");
        due("letter 3", x.heard(3), NONE);
        x.say(60);
        hears(x, "abcdefghijklmno");
        heardWith(x, "away 1", "a.cd.fg.ij.lm.o");
        heardWith(x, "here 1;hoarse 0", "abc.efghi.klmno");
        heardWith(x, "clear 0;late 2 2", "ab.de.ghijklmno");
        heardWith(x, "late 2 3", "ab.de.gh.jklmno");
        heardWith(x, "hoarse 2", "ab.de.gh.jklmn.");
        heardWith(x, "late 2 1", "ab.defgh.jklmn.");
        heardWith(x, "away 2", "ab.de.gh.jk.mn.");
        heardWith(x, "order 1", "abcdefghijklmno");
        heardWith(x, "hoarse 0;late 0 3", "...d.f.h.j.l.n.");
        heardWith(x, "order 2;hoarse 1;late 0 1", ".bc.efg.ijk.mno");
        heardWith(x, "order 5;away 0;away 4", ".bcd..ghi..lmn.");
    }

    private static void heardWith(ThirdLetter x, String text, String want) {
        Checks.tell(x, text);
        Checks.preachAll(x, 0, 1);
        x.say(60);
        hears(x, want);
    }

    private static void p12Tally() {
        checks.about("12 tally");
        ThirdLetter x = Checks.told("word 0 abcdefg;away 1");
        for (int what : new int[] {-1, 3, Integer.MAX_VALUE}) due("what " + what, x.tally(what), OUTSIDE);
        due("no sermon", x.tally(2), NONE);
        x.preach(0);
        for (int said = 0; said < 7; said++) {
            due("turn at " + said, x.tally(2), said % 3);
            due("holes at " + said, x.tally(0), (said + 1) / 3);
            due("letters at " + said, x.tally(1), said - (said + 1) / 3);
            x.say(1);
        }
        due("all is said", x.tally(2), NONE);
        due("holes", x.tally(0), 2);
        due("letters", x.tally(1), 5);
        x.preach(0);
        due("more was preached", x.tally(2), 1);
        Checks.tell(x, "here 1;away 0");
        x.preach(0);
        x.say(1);
        due("a hole at the first", x.tally(0), 1);
        due("no letter", x.tally(1), 0);
    }

    private static void p13Sound() {
        checks.about("13 sound");
        ThirdLetter x = new ThirdLetter();
        for (int letter : new int[] {-1, 27, Integer.MAX_VALUE, Integer.MIN_VALUE}) {
            due("letter " + letter, x.sound(letter), OUTSIDE);
        }
        for (int i = 1; i <= 60; i++) due("letter " + i % 27, x.sound(i % 27), i);
        due("61", x.sound(0), FULL);
        due("outside comes first", x.sound(27), OUTSIDE);
        due("count(5)", x.count(5), 60);
    }

    private static void p14Listen() {
        checks.about("14 listen");
        ThirdLetter x = Checks.told("word 0 abcde;word 1 abxde;away 2");
        Checks.soundAs(x, "zzz");
        due("nothing is said", x.listen(), 0);
        due("sound is empty", x.count(5), 0);
        x.preach(0);
        x.say(2);
        due("two", x.listen(), 2);
        x.say(60);
        due("they are put anew", x.listen(), 5);
        due("count(5)", x.count(5), 5);
        due("a hole at 2", x.fits(1, 0), 1);
        due("readings", x.readings(0), 2);
    }

    private static void p15Hush() {
        checks.about("15 hush");
        ThirdLetter x = new ThirdLetter();
        due("none", x.hush(), 0);
        Checks.soundAs(x, "a.b");
        due("three", x.hush(), 3);
        due("again", x.hush(), 0);
        due("count(5)", x.count(5), 0);
        due("sound", x.sound(1), 1);
    }

    private static void p16Fits() {
        checks.about("16 fits");
        ThirdLetter x = Checks.told("word 0 abc;word 1 bc;word 2 c");
        due("no sound", x.fits(0, 0), 0);
        due("behind no sound", x.fits(0, 1), OUTSIDE);
        Checks.soundAs(x, "a.cbc");
        int[][] want = {{1, 0, 0, 0, 0, 0}, {0, 1, 0, 1, 0, 0}, {0, 1, 1, 0, 1, 0}};
        for (int word = 0; word < 3; word++) {
            for (int from = 0; from < 6; from++) {
                due("fits(" + word + ", " + from + ")", x.fits(word, from), want[word][from]);
            }
        }
        for (int from : new int[] {-1, 6, Integer.MAX_VALUE, Integer.MIN_VALUE}) {
            due("from " + from, x.fits(0, from), OUTSIDE);
            due("no such word comes first", x.fits(3, from), UNKNOWN);
        }
        due("word -1", x.fits(-1, 0), UNKNOWN);
    }

    private static void reads(ThirdLetter x, String row, int total, int words, int... first) {
        Checks.soundAs(x, row);
        due("readings of '" + row + "'", x.readings(0), total);
        due("words of '" + row + "'", x.readings(1), words);
        for (int i = 0; i < 6; i++) {
            due("word " + i + " of the first of '" + row + "'", x.readings(10 + i), i < first.length ? first[i] : NONE);
        }
    }

    private static void p17Readings() {
        checks.about("17 readings");
        ThirdLetter x = Checks.told("word 0 ab;word 1 a;word 2 b;word 0 abb");
        for (int what : new int[] {-1, 2, 9, 16, Integer.MAX_VALUE}) due("what " + what, x.readings(what), OUTSIDE);
        reads(x, "", 0, 0);
        reads(x, "ab", 2, 7, 0);
        reads(x, "abb", 3, 15, 0, 2);
        reads(x, "ba", 1, 6, 2, 1);
        reads(x, "..", 5, 7, 0);
        reads(x, "c", 0, 0);
        reads(x, "abc", 0, 0);
        reads(x, "bbbbbb", 1, 4, 2, 2, 2, 2, 2, 2);
        reads(x, "bbbbbbb", 0, 0);
        // seven letters: six words at most, so the seven of one letter each are no reading
        reads(x, "bbbbbab", 1, 5, 2, 2, 2, 2, 2, 0);
        Checks.tell(x, "not 2 2;not 0 2");
        reads(x, "abb", 1, 8, 3);
        reads(x, "bb", 0, 0);
        // "ab", "a b": the word b may not stand behind a word b, nor behind ab
        reads(x, "abab", 4, 7, 0, 0);
        Checks.tell(x, "free;word 0 b;word 1 a;word 2 ab;not 0 1;not 0 0;not 1 2");
        // b and ab may be; b, a and b may not
        reads(x, "bab", 1, 5, 0, 2);
        Checks.tell(x, "free;word 0 b;word 0 ba;word 1 a");
        reads(x, "ba", 2, 7, 0, 2);
        reads(x, "ba.", 4, 7, 0, 2, 0);
        Checks.tell(x, "not 0 1");
        reads(x, "ba", 1, 2, 1);
        x = Checks.told(TWELVE, TWELVE_MORE);
        reads(x, "......", 2985984, 4095, 0, 0, 0, 0, 0, 0);
        reads(x, ".......", 0, 0);
        ThirdLetter tens = Checks.told("word 0 aaaaaaaaaa;word 1 bbbbbbbbbb;not 1 0");
        reads(tens, ".".repeat(60), 7, 3, 0, 0, 0, 0, 0, 0);
        reads(tens, "b".repeat(60), 1, 2, 1, 1, 1, 1, 1, 1);
        reads(tens, ".".repeat(59), 0, 0);
    }

    private static void p18Came() {
        checks.about("18 came");
        ThirdLetter x = Checks.told("word 0 abcdefghij;word 1 klmno;order 2");
        for (int what : new int[] {-1, 2, Integer.MIN_VALUE}) due("what " + what, x.came(what), OUTSIDE);
        due("nothing at all", x.came(0), 16);
        due("the first", x.came(1), 0);
        x.preach(1);
        due("sound is shorter", x.came(0), NOT);
        due("outside comes first", x.came(2), OUTSIDE);
        // voice 0: k m o, voice 1: l n
        cameAs(x, "klmno", 1, 0);
        cameAs(x, ".lmno", 1, 4);
        cameAs(x, "..m.o", 2, 4 + 2);
        cameAs(x, ".....", 2, 4 * 3 + 2);
        cameAs(x, ".....k", NOT, NOT);
        cameAs(x, "kl.no", 0, NONE);
        cameAs(x, "klmnp", 0, NONE);
        Checks.tell(x, "order 5;late 0 1;away 1;hoarse 2");
        Checks.preachAll(x, 0);
        // nobody is away or hoarse in what is foretold, and it need not be said
        cameAs(x, "abcdefghij", 1, 0);
        cameAs(x, ".bcdefghij", 1, 256);
        cameAs(x, ".b.de.g.ij", 4, 2 * 256 + 2 * 16);
        cameAs(x, ".b.de...ij", 0, NONE);
        cameAs(x, "..........", 32, 2 * (256 + 64 + 16 + 4 + 1));
        Checks.tell(x, "free;word 0 a;order 4");
        x.preach(0);
        cameAs(x, ".", 192, 64);
        cameAs(x, "a", 64, 0);
    }

    private static void cameAs(ThirdLetter x, String row, int total, int first) {
        Checks.soundAs(x, row);
        due("how many by '" + row + "'", x.came(0), total);
        due("the first by '" + row + "'", x.came(1), first);
    }

    private static void p19Alone() {
        checks.about("19 alone");
        ThirdLetter x = Checks.told("word 0 abcabc;word 1 aa;word 2 bcbc;word 0 c;word 1 abc;word 1 bc",
            "late 0 3;away 1;hoarse 2");
        due("all", x.alone(0, 7), 0);
        due("voice 0", x.alone(0, 1), 1);
        due("voice 1", x.alone(0, 2), NONE);
        due("voices 1, 2", x.alone(0, 6), 2);
        due("nobody", x.alone(0, 0), NONE);
        due("2 of abc", x.alone(4, 4), 3);
        due("1, 2 of abc", x.alone(4, 6), 5);
        due("0 of c", x.alone(3, 1), 3);
        due("1, 2 of c", x.alone(3, 6), NONE);
        for (int set : new int[] {-1, 8, Integer.MAX_VALUE, Integer.MIN_VALUE}) {
            due("set " + set, x.alone(0, set), OUTSIDE);
            due("no such word comes first", x.alone(6, set), UNKNOWN);
        }
        due("word -1", x.alone(-1, 7), UNKNOWN);
        Checks.tell(x, "order 5");
        due("five voices", x.alone(0, 31), 0);
        due("a set of five", x.alone(0, 32), OUTSIDE);
        // voices 0 .. 4 say a b c a b, and voice 0 c
        due("voice 2 of five", x.alone(0, 4), 3);
    }

    private static void p20Twins() {
        checks.about("20 twins");
        ThirdLetter x = Checks.told("word 0 b;word 1 ab;word 2 a;word 0 aba;word 1 bb;late 1 1;away 0;hoarse 2");
        // without 0: ab to b (1, 0); without 1: ab to a (1, 2), bb to b (4, 0); without 2: aba to ab (3, 1)
        due("without 0", x.twins(0, 0), 2);
        due("the first", x.twins(0, 1), 20);
        due("without 1", x.twins(1, 0), 2);
        due("the first", x.twins(1, 1), 22);
        due("without 2", x.twins(2, 0), 1);
        due("the first", x.twins(2, 1), 61);
        for (int what : new int[] {-1, 2}) {
            due("what " + what, x.twins(0, what), OUTSIDE);
            due("no such voice comes first", x.twins(3, what), UNKNOWN);
        }
        due("voice -1", x.twins(-1, 0), UNKNOWN);
        Checks.tell(x, "order 5");
        due("nobody speaks it", x.twins(4, 0), 0);
        due("none", x.twins(4, 1), NONE);
        Checks.tell(x, "free;word 0 a;word 0 b;word 0 c;word 0 d;word 0 e;word 0 f;word 0 g;word 0 h");
        Checks.tell(x, "word 0 i;word 0 j;word 0 k;word 0 lk");
        due("20 times a, and b", x.twins(0, 1), 230);
        Checks.tell(x, "free;word 0 ab;word 0 b");
        due("the first word has one", x.twins(0, 1), 1);
        due("it counts", x.twins(0, 0), 1);
    }

    private static void learns(ThirdLetter x, int voice, int... parts) {
        for (int i = 0; i < 4; i++) {
            due("learnt(" + voice + ", " + i / 2 + ", " + i % 2 + ")", x.learnt(voice, i / 2, i % 2), parts[i]);
        }
    }

    private static void p21Learnt() {
        checks.about("21 learnt");
        ThirdLetter x = new ThirdLetter();
        due("no words", x.learnt(0, 0, 0), NOT);
        due("outside comes first", x.learnt(0, 2, 0), OUTSIDE);
        due("unknown comes first", x.learnt(3, 2, 2), UNKNOWN);
        Checks.tell(x, "word 0 abcd;word 1 abce;word 2 aacd;word 0 bbcd;away 0;late 1 3;hoarse 2");
        // voice 0: ad ae ad bd: 4 + 1 + 1 of 4 words, 3 classes; voice 1: b b a b; voice 2: c c c c
        learns(x, 0, 3, 2, 3, 4);
        learns(x, 1, 5, 2, 1, 2);
        learns(x, 2, 4, 1, 1, 4);
        Checks.tell(x, "word 1 abc");
        // a word of another length is a class of its own
        learns(x, 2, 17, 5, 2, 5);
        Checks.tell(x, "order 5");
        learns(x, 4, 17, 5, 2, 5);
        Checks.tell(x, "order 1");
        learns(x, 0, 1, 1, 1, 1);
        for (int wrong : new int[] {-1, 2}) {
            due("what " + wrong, x.learnt(0, wrong, 0), OUTSIDE);
            due("part " + wrong, x.learnt(0, 0, wrong), OUTSIDE);
            due("voice", x.learnt(wrong, 0, 0), UNKNOWN);
        }
    }

    private static void seatsAre(ThirdLetter x, int spoilt, int... row) {
        due("spoilt", x.seats(-1), spoilt);
        for (int i = 0; i < 6; i++) due("place " + i, x.seats(i), i < row.length ? row[i] : NONE);
    }

    private static void p22Seats() {
        checks.about("22 seats");
        ThirdLetter x = new ThirdLetter();
        due("i -2", x.seats(-2), OUTSIDE);
        due("i far below", x.seats(Integer.MIN_VALUE), OUTSIDE);
        due("i far above", x.seats(Integer.MAX_VALUE), NONE);
        seatsAre(x, 0, 0, 1, 2);
        Checks.tell(x, "word 0 abcd;word 1 ab");
        seatsAre(x, 0, 0, 1, 2);
        // turns 0, 1, 2 have 3, 2, 1 letters, of which 1, 0, 0 are a second one
        Checks.tell(x, "away 0");
        seatsAre(x, 1, 1, 2, 0);
        Checks.tell(x, "hoarse 1");
        seatsAre(x, 1, 2, 1, 0);
        Checks.tell(x, "away 1");
        seatsAre(x, 3, 2, 0, 1);
        Checks.tell(x, "late 2 3;here 0;here 1");
        seatsAre(x, 0, 0, 1, 2);
        Checks.tell(x, "hoarse 0");
        seatsAre(x, 0, 2, 0, 1);
        Checks.tell(x, "away 0;away 1;away 2");
        seatsAre(x, 6, 0, 1, 2);
        Checks.tell(x, "order 1;hoarse 0");
        seatsAre(x, 3, 0);
        Checks.tell(x, "order 5;away 4;away 0;hoarse 2;free;word 0 abcdefghij");
        seatsAre(x, 5, 0, 1, 2, 3, 4);
        Checks.tell(x, "word 0 abcdefg");
        // turns have 4 4 3 3 3 letters, 2 2 1 1 1 second ones
        seatsAre(x, 7, 1, 3, 0, 2, 4);
    }

    private static void p23Bears() {
        checks.about("23 bears");
        ThirdLetter x = new ThirdLetter();
        for (int what : new int[] {-1, 2, Integer.MIN_VALUE}) due("what " + what, x.bears(what), OUTSIDE);
        bearsAre(x, 0, 0);
        Checks.tell(x, "word 0 abc;word 1 abd;word 2 ade;word 0 ab;away 0;hoarse 1;late 2 2");
        // abc and abd differ by voice 2 alone; ade differs from both by two
        bearsAre(x, 3, 1 + 4 + 8);
        Checks.tell(x, "free;word 0 aa;word 0 ab;word 0 bb");
        bearsAre(x, 2, 1 + 4);
        Checks.tell(x, "free;word 0 ab;word 0 aa;word 0 bb");
        bearsAre(x, 2, 2 + 4);
        Checks.tell(x, "free;word 0 abca;word 0 bbcb");
        // letters 0 and 3 are both voice 0's
        bearsAre(x, 1, 1);
        Checks.tell(x, "order 4");
        bearsAre(x, 2, 3);
        Checks.tell(x, "order 1;free;word 0 ab;word 0 cd;word 0 a;word 0 b;word 0 abc");
        bearsAre(x, 3, 1 + 4 + 16);
    }

    private static void bearsAre(ThirdLetter x, int size, int set) {
        due("how many", x.bears(0), size);
        due("the set", x.bears(1), set);
    }

    private static void p24Keep() {
        checks.about("24 keep");
        ThirdLetter x = Checks.told("word 0 abc");
        for (int k : new int[] {-1, 2, Integer.MAX_VALUE, Integer.MIN_VALUE}) due("k " + k, x.keep(k), UNKNOWN);
        due("an empty sermon", x.keep(1), 0);
        x.preach(0);
        due("nothing said", x.keep(0), 0);
        x.say(2);
        due("two said", x.keep(0), 2);
        due("the sermon stays", x.count(3), 3);
        due("the other is its own", x.back(1), 0);
        due("and empty", x.count(2), 0);
        due("k 0 was kept anew", x.back(0), 2);
    }

    private static void p25Back() {
        checks.about("25 back");
        ThirdLetter x = Checks.told("word 0 abc;word 1 de;not 0 0;not 1 1");
        for (int k : new int[] {-1, 2, Integer.MAX_VALUE}) due("k " + k, x.back(k), UNKNOWN);
        due("nothing kept", x.back(0), NOT);
        Checks.preachAll(x, 0, 1);
        x.say(4);
        x.keep(0);
        x.amen();
        due("the other", x.back(1), NOT);
        Checks.soundAs(x, "zz");
        x.preach(0);
        due("back", x.back(0), 4);
        hears(x, "abcd");
        due("words", x.count(2), 2);
        due("letters", x.count(3), 5);
        due("sound stays", x.count(5), 2);
        due("the last word too", x.preach(1), NOT);
        x.say(60);
        due("again", x.back(0), 4);
        Checks.write(x, "x");
        due("a text with a fault", x.order(), NOT);
        due("still", x.back(0), 4);
        x.erase();
        Checks.tell(x, "here 0");
        due("since the last text", x.back(0), NOT);
        x.keep(0);
        due("kept since", x.back(0), 0);
    }

    private static void p26Count() {
        checks.about("26 count");
        ThirdLetter x = Checks.told("order 4;word 0 abc;word 1 de;not 2 1;not 1 0");
        Checks.preachAll(x, 0, 0, 1);
        x.say(5);
        Checks.soundAs(x, "a.c.e.");
        Checks.write(x, "free;free");
        int[] counts = {4, 2, 3, 8, 5, 6, 9, 511 - (1 << 7) - (1 << 3)};
        for (int what = 0; what < 8; what++) due("count(" + what + ")", x.count(what), counts[what]);
        for (int what : new int[] {-1, 8, Integer.MAX_VALUE}) due("what " + what, x.count(what), OUTSIDE);
    }
}
