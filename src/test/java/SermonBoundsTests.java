/**
 * Each sentence of the document that bounds a sermon, what is said, heard, told as sound, read from it and kept: just
 * inside, just outside, at nothing, at the most. Promises 8 to 18, 24 and 25.
 */
public final class SermonBoundsTests {
    private static final int NONE = ThirdLetter.NONE, UNKNOWN = ThirdLetter.UNKNOWN, OUTSIDE = ThirdLetter.OUTSIDE;
    private static final int NOT = ThirdLetter.NOT, FULL = ThirdLetter.FULL;
    private static final int LEAST = Integer.MIN_VALUE, MOST = Integer.MAX_VALUE;
    private static final String TEN = "abcdefghij";

    private static final Checks checks = new Checks("sermon bounds");

    private SermonBoundsTests() {
    }

    public static void main(String[] args) {
        sermonSixWordsAtMost();
        sermonSixtyLettersAtMost();
        firstWordHasNoneAhead();
        eachMayFollowTheOneAhead();
        preachKnowsItsWords();
        amenNoneToSix();
        sayOneToSixty();
        sayNoMoreThanAreLeft();
        letterByLetter();
        turnsGoRound();
        awaySaysNothing();
        hoarseSaysEachSecond();
        lateLeavesItsFirstOut();
        lateAndHoarse();
        heardFromNothingToSixty();
        tallyFromNothingToSixty();
        tallyWhoseTurn();
        lettersOfAVoice();
        soundZeroToTwentySix();
        soundSixtyAtMost();
        listenFromNothingToSixty();
        hushFromNothingToSixty();
        fitsFromZeroToTheLength();
        fitsLettersAndHoles();
        readingsWhat();
        readingsOfNothing();
        readingsOneToSixWords();
        readingsJustAsManyLetters();
        readingsAsTheyMayFollow();
        readingsLeastFirst();
        readingsAtTheMost();
        cameWhat();
        cameAsManyAsTheSermon();
        cameOfNothing();
        cameFiguresOfFour();
        cameJustSo();
        keepZeroAndOne();
        keepFromNothingToSixty();
        backSinceTheLastText();
        backAsTheyWereKept();
        checks.end();
    }

    private static void due(String call, long got, long want) {
        checks.due(call, got, want);
    }

    private static void hears(ThirdLetter x, String want) {
        String row = Checks.heardRow(x);
        checks.holds("heard is " + row + ", due is " + want, row.equals(want));
    }

    /** Words of ten letters each, preached six times and said. */
    private static ThirdLetter sixty(String more) {
        ThirdLetter x = Checks.told("word 0 " + TEN + more);
        Checks.preachAll(x, 0, 0, 0, 0, 0, 0);
        x.say(60);
        return x;
    }

    private static void sermonSixWordsAtMost() {
        checks.about("THE SERMON is a row of WORDS (6 at most); FULL: 6 WORDS");
        ThirdLetter x = Checks.told("word 0 a;word 1 bc");
        due("none", x.count(2), 0);
        for (int i = 1; i <= 6; i++) {
            due("word " + i, x.preach(0), i);
            due("count(2)", x.count(2), i);
        }
        due("a seventh", x.preach(0), FULL);
        due("another seventh", x.preach(1), FULL);
        due("six", x.count(2), 6);
        due("letters", x.count(3), 6);
        due("said or not", x.say(60), 6);
        due("a seventh", x.preach(0), FULL);
        x.amen();
        due("room again", x.preach(1), 2);
    }

    private static void sermonSixtyLettersAtMost() {
        checks.about("its LETTERS are 60 at most");
        ThirdLetter x = Checks.told("word 0 " + TEN + ";word 0 z");
        due("no letters", x.count(3), 0);
        for (int i = 1; i <= 6; i++) due("ten more", x.preach(0), 10 * i);
        due("sixty", x.count(3), 60);
        due("one more", x.preach(1), FULL);
        due("ten more", x.preach(0), FULL);
        due("sixty", x.count(3), 60);
        due("all can be said", x.say(60), 60);
        hears(x, TEN.repeat(6));
    }

    private static void firstWordHasNoneAhead() {
        checks.about("each SORT MAY FOLLOW the one ahead: the first has none");
        for (int word = 0; word < 3; word++) {
            ThirdLetter x = Checks.told("word 0 a;word 1 b;word 2 c",
                "not 0 0;not 0 1;not 0 2;not 1 0;not 1 1;not 1 2;not 2 0;not 2 1;not 2 2");
            due("any may begin", x.preach(word), 1);
            for (int next = 0; next < 3; next++) due("none may follow", x.preach(next), NOT);
            due("one word", x.count(2), 1);
            x.amen();
            due("none is ahead behind amen", x.preach(2 - word), 1);
        }
    }

    private static void eachMayFollowTheOneAhead() {
        checks.about("NOT: it MAY not FOLLOW the one just ahead");
        ThirdLetter x = Checks.told("word 0 a;word 1 b;word 2 c;not 0 2");
        due("0", x.preach(0), 1);
        due("2 behind 0", x.preach(2), NOT);
        due("1 behind 0", x.preach(1), 2);
        due("2 behind 1", x.preach(2), 3);
        due("0 behind 2", x.preach(0), 4);
        due("0 behind 0", x.preach(0), 5);
        due("2 behind 0", x.preach(2), NOT);
        due("1 behind 0", x.preach(1), 6);
        due("full", x.preach(2), FULL);
        Checks.tell(x, "not 2 2;not 0 0");
        Checks.preachAll(x, 0, 1, 1, 1, 1, 0);
        due("NOT comes ahead of FULL", x.preach(0), NOT);
        due("UNKNOWN comes ahead of both", x.preach(3), UNKNOWN);
    }

    private static void preachKnowsItsWords() {
        checks.about("8: UNKNOWN: no such WORD");
        due("a new object", new ThirdLetter().preach(0), UNKNOWN);
        ThirdLetter x = Checks.told("word 0 a;word 0 b;word 0 c;word 0 d;word 0 e;word 0 f;word 0 g;word 0 h",
            "word 0 i;word 0 j;word 0 k;word 0 lll");
        for (int word : new int[] {LEAST, -1, 12, MOST}) due("word " + word, x.preach(word), UNKNOWN);
        due("the first", x.preach(0), 1);
        due("the last", x.preach(11), 4);
    }

    private static void amenNoneToSix() {
        checks.about("9: THE SERMON is empty, nothing is said: how many WORDS it had");
        for (int words = 0; words <= 6; words++) {
            ThirdLetter x = Checks.told("word 0 ab");
            for (int i = 0; i < words; i++) x.preach(0);
            x.say(5);
            due("amen() of " + words, x.amen(), words);
            for (int what = 2; what <= 4; what++) due("count(" + what + ")", x.count(what), 0);
            due("heard(0)", x.heard(0), NONE);
            due("voice(0, 3)", x.voice(0, 3), 0);
            due("say(60)", x.say(60), 0);
            due("amen() again", x.amen(), 0);
        }
    }

    private static void sayOneToSixty() {
        checks.about("10: n LETTERS (1 .. 60)");
        for (int n : new int[] {LEAST, -1, 0, 61, MOST}) {
            due("n " + n + ", no sermon", new ThirdLetter().say(n), OUTSIDE);
            ThirdLetter x = Checks.told("word 0 abc");
            x.preach(0);
            due("n " + n, x.say(n), OUTSIDE);
            due("nothing is said", x.count(4), 0);
        }
        for (int n = 1; n <= 60; n++) {
            ThirdLetter x = Checks.told("word 0 " + TEN);
            Checks.preachAll(x, 0, 0, 0, 0, 0, 0);
            due("n " + n, x.say(n), n);
        }
    }

    private static void sayNoMoreThanAreLeft() {
        checks.about("10: no more than are left: how many in all");
        due("no words", new ThirdLetter().say(1), 0);
        ThirdLetter x = Checks.told("word 0 abc;word 0 z");
        due("no sermon", x.say(60), 0);
        x.preach(0);
        due("two of three", x.say(2), 2);
        due("one is left", x.say(2), 3);
        due("none is left", x.say(1), 3);
        due("none is left", x.say(60), 3);
        x.preach(1);
        due("one more", x.say(60), 4);
        hears(x, "abcz");
        ThirdLetter all = sixty("");
        due("sixty are said", all.say(60), 60);
        due("sixty are said", all.say(1), 60);
    }

    private static void letterByLetter() {
        checks.about("the SERMON is SAID LETTER by LETTER");
        ThirdLetter x = Checks.told("word 0 " + TEN);
        Checks.preachAll(x, 0, 0, 0, 0, 0, 0);
        for (int i = 0; i < 60; i++) {
            due("heard(" + i + ") before", x.heard(i), NONE);
            due("said", x.say(1), i + 1);
            due("heard(" + i + ") behind", x.heard(i), i % 10 + 1);
            due("turn", x.tally(2), i == 59 ? NONE : (i + 1) % 3);
        }
    }

    private static void turnsGoRound() {
        checks.about("LETTER i (from 0) is that of VOICE i modulo v");
        for (int v = 1; v <= 5; v++) {
            for (int voice = 0; voice < v; voice++) {
                ThirdLetter x = sixty(";order " + v + ";away " + voice);
                StringBuilder row = new StringBuilder(TEN.repeat(6));
                for (int i = voice; i < 60; i += v) row.setCharAt(i, '.');
                hears(x, row.toString());
            }
        }
        // turns go on from word to word, they do not begin anew with each
        ThirdLetter x = Checks.told("word 0 ab;away 0");
        Checks.preachAll(x, 0, 0, 0);
        x.say(60);
        hears(x, ".ba.ab");
    }

    private static void awaySaysNothing() {
        checks.about("a VOICE that is AWAY says nothing");
        ThirdLetter x = sixty(";order 1;away 0");
        hears(x, ".".repeat(60));
        due("letters", x.voice(0, 3), 0);
        ThirdLetter hoarse = sixty(";order 1;away 0;hoarse 0;late 0 3");
        hears(hoarse, ".".repeat(60));
        ThirdLetter all = sixty(";order 5;away 0;away 1;away 2;away 3;away 4");
        hears(all, ".".repeat(60));
        hears(sixty(""), TEN.repeat(6));
    }

    private static void saidAlone(String told, String word, String want) {
        ThirdLetter x = Checks.told("word 0 " + word + ";" + told);
        x.preach(0);
        x.say(60);
        hears(x, want);
    }

    private static void hoarseSaysEachSecond() {
        checks.about("one that is HOARSE says each second of its LETTERS alone (its first, third, ..)");
        saidAlone("order 1;hoarse 0", "a", "a");
        saidAlone("order 1;hoarse 0", "ab", "a.");
        saidAlone("order 1;hoarse 0", "abc", "a.c");
        saidAlone("order 1;hoarse 0", TEN, "a.c.e.g.i.");
        saidAlone("order 2;hoarse 1", TEN, "abc.efg.ij");
        saidAlone("order 5;hoarse 4", TEN, "abcdefghi.");
        saidAlone("order 5;hoarse 0;hoarse 1;hoarse 2;hoarse 3;hoarse 4", TEN, "abcde.....");
        // its letters are counted over the whole sermon, not word by word
        ThirdLetter x = Checks.told("word 0 abc;order 3;hoarse 0");
        Checks.preachAll(x, 0, 0, 0, 0);
        x.say(60);
        hears(x, "abc.bcabc.bc");
    }

    private static void lateLeavesItsFirstOut() {
        checks.about("one that is LATE by n leaves its first n LETTERS out");
        saidAlone("order 1;late 0 0", "abcd", "abcd");
        saidAlone("order 1;late 0 1", "abcd", ".bcd");
        saidAlone("order 1;late 0 2", "abcd", "..cd");
        saidAlone("order 1;late 0 3", "abcd", "...d");
        saidAlone("order 1;late 0 3", "abc", "...");
        saidAlone("order 1;late 0 3", "a", ".");
        saidAlone("order 5;late 4 1", TEN, "abcd.fghij");
        saidAlone("order 5;late 4 3", TEN, "abcd.fghi.");
        saidAlone("order 3;late 0 1;late 1 2;late 2 3", TEN, "...d..gh.j");
        // late once, at the beginning of the sermon, not of each word
        ThirdLetter x = Checks.told("word 0 ab;order 2;late 1 2");
        Checks.preachAll(x, 0, 0, 0, 0);
        x.say(60);
        hears(x, "a.a.abab");
    }

    private static void lateAndHoarse() {
        checks.about("if it is HOARSE, the first of the others is its first one");
        saidAlone("order 1;hoarse 0;late 0 1", TEN, ".b.d.f.h.j");
        saidAlone("order 1;hoarse 0;late 0 2", TEN, "..c.e.g.i.");
        saidAlone("order 1;hoarse 0;late 0 3", TEN, "...d.f.h.j");
        saidAlone("order 1;hoarse 0;late 0 3", "abc", "...");
        saidAlone("order 1;hoarse 0;late 0 3", "abcd", "...d");
        saidAlone("order 1;hoarse 0;late 0 3", "abcde", "...d.");
        saidAlone("order 2;late 1 1;hoarse 1;hoarse 0", TEN, "a..de..hi.");
    }

    private static void heardFromNothingToSixty() {
        checks.about("11: HEARD of LETTER i: 0 a HOLE, 1 .. 26; NONE: it is not said yet. OUTSIDE: i below 0");
        ThirdLetter x = Checks.told("word 0 azb;away 2");
        for (int i : new int[] {0, 59, 60, MOST}) due("no sermon, " + i, x.heard(i), NONE);
        x.preach(0);
        for (int i : new int[] {0, 2, 3, MOST}) due("nothing is said, " + i, x.heard(i), NONE);
        x.say(2);
        due("a", x.heard(0), 1);
        due("z", x.heard(1), 26);
        due("not yet", x.heard(2), NONE);
        x.say(1);
        due("a hole", x.heard(2), 0);
        due("behind it", x.heard(3), NONE);
        for (int i : new int[] {LEAST, -1}) due("i " + i, x.heard(i), OUTSIDE);
        ThirdLetter all = sixty("");
        due("the last", all.heard(59), 10);
        for (int i : new int[] {60, 61, MOST}) due("behind the last, " + i, all.heard(i), NONE);
        due("i -1", all.heard(-1), OUTSIDE);
    }

    private static void tallyFromNothingToSixty() {
        checks.about("12: HOLES (what 0), LETTERS (1) of what was said");
        ThirdLetter x = Checks.told("word 0 " + TEN + ";away 0");
        for (int what : new int[] {LEAST, -1, 3, MOST}) due("what " + what, x.tally(what), OUTSIDE);
        due("no sermon: holes", x.tally(0), 0);
        due("no sermon: letters", x.tally(1), 0);
        x.preach(0);
        due("nothing said: holes", x.tally(0), 0);
        due("nothing said: letters", x.tally(1), 0);
        x.say(1);
        due("one said: holes", x.tally(0), 1);
        due("one said: letters", x.tally(1), 0);
        x.say(1);
        due("two said: holes", x.tally(0), 1);
        due("two said: letters", x.tally(1), 1);
        due("sixty: holes", sixty("").tally(0), 0);
        due("sixty: letters", sixty("").tally(1), 60);
        due("sixty, away: holes", sixty(";order 1;away 0").tally(0), 60);
        due("sixty, away: letters", sixty(";order 1;away 0").tally(1), 0);
    }

    private static void tallyWhoseTurn() {
        checks.about("12: the VOICE whose turn it is (2; NONE: all is said)");
        due("no sermon", new ThirdLetter().tally(2), NONE);
        for (int v = 1; v <= 5; v++) {
            ThirdLetter x = Checks.told("word 0 " + TEN + ";order " + v);
            due("no sermon", x.tally(2), NONE);
            x.preach(0);
            for (int said = 0; said < 10; said++) {
                due("turn at " + said + " of " + v, x.tally(2), said % v);
                x.say(1);
            }
            due("all is said", x.tally(2), NONE);
            x.preach(0);
            due("more to say", x.tally(2), 10 % v);
        }
        // it is its turn though it is away
        ThirdLetter x = Checks.told("word 0 a;away 0");
        x.preach(0);
        due("away", x.tally(2), 0);
    }

    private static void lettersOfAVoice() {
        checks.about("7: LETTERS that it has said (3)");
        ThirdLetter x = Checks.told("word 0 " + TEN + ";order 3;away 0;hoarse 1;late 2 2");
        for (int voice = 0; voice < 3; voice++) due("no sermon", x.voice(voice, 3), 0);
        x.preach(0);
        // voice 1 says letters 1, 7; voice 2 letter 8
        int[][] want = {{0, 0, 0}, {0, 0, 0}, {0, 1, 0}, {0, 1, 0}, {0, 1, 0}, {0, 1, 0}, {0, 1, 0}, {0, 1, 0},
            {0, 2, 0}, {0, 2, 1}, {0, 2, 1}};
        for (int said = 0; said <= 10; said++) {
            for (int voice = 0; voice < 3; voice++) due(voice + " at " + said, x.voice(voice, 3), want[said][voice]);
            x.say(1);
        }
        due("the most", sixty(";order 1").voice(0, 3), 60);
        due("the last of five", sixty(";order 5").voice(4, 3), 12);
    }

    private static void soundZeroToTwentySix() {
        checks.about("13: a LETTER (1 .. 26) or a HOLE (0)");
        for (int letter : new int[] {LEAST, -1, 27, MOST}) {
            ThirdLetter x = new ThirdLetter();
            due("letter " + letter, x.sound(letter), OUTSIDE);
            due("none", x.count(5), 0);
        }
        for (int letter = 0; letter <= 26; letter++) {
            ThirdLetter x = Checks.told("word 0 a;word 0 z;word 0 m");
            due("letter " + letter, x.sound(letter), 1);
            due("a", x.fits(0, 0), letter == 0 || letter == 1 ? 1 : 0);
            due("z", x.fits(1, 0), letter == 0 || letter == 26 ? 1 : 0);
            due("m", x.fits(2, 0), letter == 0 || letter == 13 ? 1 : 0);
        }
    }

    private static void soundSixtyAtMost() {
        checks.about("SOUND is a row of LETTERS and HOLES (60 at most): how many it has. FULL");
        ThirdLetter x = Checks.told("word 0 z");
        due("none", x.count(5), 0);
        for (int i = 1; i <= 59; i++) due("sound", x.sound(1), i);
        due("the sixtieth", x.sound(26), 60);
        due("one more", x.sound(1), FULL);
        due("one more hole", x.sound(0), FULL);
        due("sixty", x.count(5), 60);
        due("the last is as it was", x.fits(0, 59), 1);
        due("outside comes first", x.sound(27), OUTSIDE);
        due("sixty had it", x.hush(), 60);
        due("room again", x.sound(0), 1);
    }

    private static void listenFromNothingToSixty() {
        checks.about("14: SOUND becomes what is HEARD of THE SERMON so far: how many");
        ThirdLetter x = Checks.told("word 0 ab;word 0 zb;away 0");
        due("no sermon, no sound", x.listen(), 0);
        Checks.soundAs(x, "abc");
        due("no sermon", x.listen(), 0);
        due("sound is empty", x.count(5), 0);
        x.preach(0);
        Checks.soundAs(x, "abc");
        due("nothing is said", x.listen(), 0);
        due("sound is empty", x.count(5), 0);
        x.say(1);
        due("one, a hole", x.listen(), 1);
        due("count(5)", x.count(5), 1);
        x.say(1);
        due("two", x.listen(), 2);
        due("a hole and b", x.readings(0), 2);
        ThirdLetter all = sixty("");
        for (int i = 0; i < 60; i++) all.sound(26);
        due("over a full one", all.listen(), 60);
        for (int i = 0; i <= 5; i++) due("the word at " + 10 * i, all.fits(0, 10 * i), 1);
        due("again", all.listen(), 60);
    }

    private static void hushFromNothingToSixty() {
        checks.about("15: SOUND is empty: how many it had");
        for (int n : new int[] {0, 1, 59, 60}) {
            ThirdLetter x = new ThirdLetter();
            for (int i = 0; i < n; i++) x.sound(i % 27);
            due("hush() of " + n, x.hush(), n);
            due("count(5)", x.count(5), 0);
            due("again", x.hush(), 0);
        }
    }

    private static void fitsFromZeroToTheLength() {
        checks.about("16: OUTSIDE: the place (0 .. how many SOUND has)");
        ThirdLetter x = Checks.told("word 0 a;word 0 " + TEN);
        due("no sound, 0", x.fits(0, 0), 0);
        for (int from : new int[] {LEAST, -1, 1, MOST}) due("no sound, " + from, x.fits(0, from), OUTSIDE);
        x.sound(0);
        due("one, 0", x.fits(0, 0), 1);
        due("one, 1", x.fits(0, 1), 0);
        for (int from : new int[] {LEAST, -1, 2, MOST}) due("one, " + from, x.fits(0, from), OUTSIDE);
        Checks.soundAs(x, ".".repeat(60));
        due("the last place", x.fits(0, 59), 1);
        due("at the length", x.fits(0, 60), 0);
        due("behind it", x.fits(0, 61), OUTSIDE);
        due("ten letters to the end", x.fits(1, 50), 1);
        due("ten letters over the end", x.fits(1, 51), 0);
        due("no such word", x.fits(2, 0), UNKNOWN);
        due("no such word, nor place", x.fits(2, 61), UNKNOWN);
        due("word -1", x.fits(-1, 0), UNKNOWN);
    }

    private static void fitsLettersAndHoles() {
        checks.about("a WORD FITS a row of as many if each LETTER of it that is no HOLE is that of the WORD");
        ThirdLetter x = Checks.told("word 0 abc");
        String[] fit = {"abc", ".bc", "a.c", "ab.", "...", "abcz", "...z"};
        for (String row : fit) {
            Checks.soundAs(x, row);
            due(row, x.fits(0, 0), 1);
        }
        String[] unfit = {"zbc", "azc", "abz", "..a", "ab", "..", "", "zabc"};
        for (String row : unfit) {
            Checks.soundAs(x, row);
            due(row, x.fits(0, 0), 0);
        }
        due("from 1 on", x.fits(0, 1), 1);
    }

    private static void reads(ThirdLetter x, String row, int total, int words, int... first) {
        Checks.soundAs(x, row);
        due("readings of '" + row + "'", x.readings(0), total);
        due("words of '" + row + "'", x.readings(1), words);
        for (int i = 0; i < 6; i++) {
            due("word " + i + " of the first of '" + row + "'", x.readings(10 + i), i < first.length ? first[i] : NONE);
        }
    }

    private static void readingsWhat() {
        checks.about("17: how many (what 0), by bits (1), the i-th WORD of the first (10 and i, i 0 .. 5). OUTSIDE");
        for (ThirdLetter x : new ThirdLetter[] {new ThirdLetter(), Checks.told("word 0 a")}) {
            for (int what : new int[] {LEAST, -1, 2, 9, 16, MOST}) due("what " + what, x.readings(what), OUTSIDE);
            for (int what = 10; what <= 15; what++) due("what " + what, x.readings(what), NONE);
        }
    }

    private static void readingsOfNothing() {
        checks.about("17: NONE: there is none");
        reads(new ThirdLetter(), "", 0, 0);
        reads(new ThirdLetter(), "a", 0, 0);
        reads(new ThirdLetter(), ".".repeat(60), 0, 0);
        reads(Checks.told("word 0 a"), "", 0, 0);
        reads(Checks.told("word 0 a"), "b", 0, 0);
    }

    private static void readingsOneToSixWords() {
        checks.about("READINGS: SERMONS of one WORD and more (6 at most)");
        ThirdLetter x = Checks.told("word 0 a");
        int[] first = new int[0];
        for (int n = 1; n <= 6; n++) {
            first = new int[n];
            reads(x, "a".repeat(n), 1, 1, first);
            reads(x, ".".repeat(n), 1, 1, first);
        }
        reads(x, "a".repeat(7), 0, 0);
        reads(x, ".".repeat(7), 0, 0);
        // seven letters as six words, or fewer
        reads(Checks.told("word 0 a;word 0 aa"), "a".repeat(7), 6 + 10 + 4, 3, 0, 0, 0, 0, 0, 1);
        reads(Checks.told("word 0 a;word 0 aa"), "a".repeat(12), 1, 2, 1, 1, 1, 1, 1, 1);
        reads(Checks.told("word 0 a;word 0 aa"), "a".repeat(13), 0, 0);
    }

    private static void readingsJustAsManyLetters() {
        checks.about("READINGS have just as many LETTERS and FIT it");
        ThirdLetter x = Checks.told("word 0 abc");
        reads(x, "ab", 0, 0);
        reads(x, "abc", 1, 1, 0);
        reads(x, "abca", 0, 0);
        reads(x, "abcab", 0, 0);
        reads(x, "abcabc", 1, 1, 0, 0);
        reads(x, "....b.", 1, 1, 0, 0);
        reads(x, "...b..", 0, 0);
        ThirdLetter ten = Checks.told("word 0 " + TEN);
        reads(ten, TEN.repeat(6), 1, 1, 0, 0, 0, 0, 0, 0);
        reads(ten, ".".repeat(60), 1, 1, 0, 0, 0, 0, 0, 0);
        reads(ten, ".".repeat(59), 0, 0);
        reads(ten, ".".repeat(50), 1, 1, 0, 0, 0, 0, 0);
    }

    private static void readingsAsTheyMayFollow() {
        checks.about("READINGS: SORT by SORT as they MAY FOLLOW");
        ThirdLetter x = Checks.told("word 0 a;word 1 b;word 2 c;not 0 0;not 0 1;not 0 2;not 1 0;not 1 1;not 1 2",
            "not 2 0;not 2 1;not 2 2");
        reads(x, ".", 3, 7, 0);
        reads(x, "..", 0, 0);
        reads(Checks.told("word 0 a;word 1 b;not 0 0"), "..", 3, 3, 0, 1);
        reads(Checks.told("word 0 a;word 1 b;not 0 0;not 1 1"), "......", 2, 3, 0, 1, 0, 1, 0, 1);
        for (int pair = 0; pair < 9; pair++) {
            ThirdLetter y = Checks.told("word 0 a;word 1 b;word 2 c;not " + pair / 3 + " " + pair % 3);
            Checks.soundAs(y, "..");
            due("all but one", y.readings(0), 8);
            Checks.soundAs(y, "" + (char) ('a' + pair / 3) + (char) ('a' + pair % 3));
            due("the one", y.readings(0), 0);
            Checks.soundAs(y, "" + (char) ('a' + pair % 3) + (char) ('a' + pair / 3));
            due("the other way", y.readings(0), pair / 3 == pair % 3 ? 0 : 1);
        }
    }

    private static void readingsLeastFirst() {
        checks.about("the first one (by its WORDS, one behind the other, the least first)");
        reads(Checks.told("word 0 ab;word 0 a;word 0 b"), "ab", 2, 7, 0);
        reads(Checks.told("word 0 a;word 0 ab;word 0 b"), "ab", 2, 7, 0, 2);
        // word 0 is the least, but no reading begins with it
        reads(Checks.told("word 0 a;word 1 b;word 2 ab;not 0 1"), "ab", 1, 4, 2);
        reads(Checks.told("word 0 b;word 0 a;word 0 c"), "..", 9, 7, 0, 0);
        // not so many
        ThirdLetter x = Checks.told("word 0 abc;word 0 a;word 0 b;word 0 c");
        reads(x, "abc", 2, 15, 0);
    }

    private static void readingsAtTheMost() {
        checks.about("READINGS at the most: twelve WORDS, six places");
        ThirdLetter x = Checks.told("word 0 a;word 0 b;word 0 c;word 0 d;word 0 e;word 0 f;word 0 g;word 0 h",
            "word 0 i;word 0 j;word 0 k;word 0 l");
        reads(x, "......", 2985984, 4095, 0, 0, 0, 0, 0, 0);
        reads(x, "llllll", 1, 2048, 11, 11, 11, 11, 11, 11);
        reads(x, "l.....", 248832, 4095, 11, 0, 0, 0, 0, 0);
        ThirdLetter tens = Checks.told("word 0 aaaaaaaaaa;word 0 baaaaaaaaa;word 0 caaaaaaaaa;word 0 daaaaaaaaa",
            "word 0 eaaaaaaaaa;word 0 faaaaaaaaa;word 0 gaaaaaaaaa;word 0 haaaaaaaaa",
            "word 0 iaaaaaaaaa;word 0 jaaaaaaaaa;word 0 kaaaaaaaaa;word 0 laaaaaaaaa");
        reads(tens, ".".repeat(60), 2985984, 4095, 0, 0, 0, 0, 0, 0);
        reads(tens, ".".repeat(50) + "l" + ".".repeat(9), 248832, 4095, 0, 0, 0, 0, 0, 11);
    }

    private static void cameWhat() {
        checks.about("18: how many (what 0), the first (1; NONE). OUTSIDE");
        ThirdLetter x = Checks.told("word 0 ab");
        for (int what : new int[] {LEAST, -1, 2, MOST}) due("what " + what, x.came(what), OUTSIDE);
        x.preach(0);
        for (int what : new int[] {LEAST, -1, 2, MOST}) due("outside comes first, " + what, x.came(what), OUTSIDE);
        Checks.soundAs(x, "zz");
        due("none", x.came(0), 0);
        due("the first of none", x.came(1), NONE);
    }

    private static void cameAsManyAsTheSermon() {
        checks.about("18: NOT: SOUND has not as many as THE SERMON");
        ThirdLetter x = Checks.told("word 0 ab");
        x.sound(0);
        due("no sermon, a sound", x.came(0), NOT);
        x.preach(0);
        due("one fewer", x.came(0), NOT);
        due("one fewer", x.came(1), NOT);
        x.sound(0);
        due("as many", x.came(0), 3 * 3 * 4);
        x.sound(0);
        due("one more", x.came(0), NOT);
        due("one more", x.came(1), NOT);
        x.hush();
        due("no sound", x.came(0), NOT);
        ThirdLetter all = sixty("");
        all.listen();
        due("sixty", all.came(0), 1);
        due("the first", all.came(1), 0);
        all.hush();
        for (int i = 0; i < 59; i++) all.sound(0);
        due("fifty-nine", all.came(0), NOT);
    }

    private static void cameOfNothing() {
        checks.about("CAME of nothing: 4 rows for each VOICE");
        int rows = 1;
        for (int v = 1; v <= 5; v++) {
            rows *= 4;
            ThirdLetter x = Checks.told("order " + v);
            due("of " + v, x.came(0), rows);
            due("the first of " + v, x.came(1), 0);
        }
    }

    private static void came(ThirdLetter x, String row, int total, int first) {
        Checks.soundAs(x, row);
        due("how many by " + row, x.came(0), total);
        due("the first by " + row, x.came(1), first);
    }

    private static void cameFiguresOfFour() {
        checks.about("CAME: the first (figures of 4, VOICE 0's the highest); LATE 0 .. 3");
        ThirdLetter x = Checks.told("word 0 abcd;order 1");
        x.preach(0);
        came(x, "abcd", 1, 0);
        came(x, ".bcd", 1, 1);
        came(x, "..cd", 1, 2);
        came(x, "...d", 1, 3);
        came(x, "....", 0, NONE);
        ThirdLetter three = Checks.told("word 0 abc;order 1");
        three.preach(0);
        came(three, "...", 1, 3);
        ThirdLetter two = Checks.told("word 0 ab;order 1");
        two.preach(0);
        came(two, "..", 2, 2);
        // five voices, four letters each: all late by 3, and each alone
        ThirdLetter five = Checks.told("word 0 " + TEN + ";order 5");
        Checks.preachAll(five, 0, 0);
        came(five, ".".repeat(15) + "fghij", 1, 1023);
        came(five, ".bcdefghijabcdefghij", 1, 256);
        came(five, "a.cdefghijabcdefghij", 1, 64);
        came(five, "abcd.fghi.abcd.fghij", 1, 3);
        came(five, ".".repeat(20), 0, NONE);
        // a voice without letters came by any row
        ThirdLetter one = Checks.told("word 0 a;order 5");
        one.preach(0);
        came(one, "a", 256, 0);
        came(one, ".", 3 * 256, 256);
    }

    private static void cameJustSo() {
        checks.about("CAME: all is HEARD just so, nobody AWAY or HOARSE");
        ThirdLetter x = Checks.told("word 0 abcdef;order 2;away 0;hoarse 1;late 0 3;late 1 3");
        x.preach(0);
        came(x, "abcdef", 1, 0);
        came(x, ".b.def", 1, 8);
        came(x, "a.c.e.", 1, 3);
        came(x, "......", 1, 15);
        came(x, "ab.def", 0, NONE);
        came(x, "abcde.", 0, NONE);
        came(x, "zbcdef", 0, NONE);
        came(x, "abcdez", 0, NONE);
    }

    private static void keepZeroAndOne() {
        checks.about("24, 25: k 0, 1; UNKNOWN: no such k");
        for (ThirdLetter x : new ThirdLetter[] {new ThirdLetter(), sixty("")}) {
            for (int k : new int[] {LEAST, -1, 2, MOST}) {
                due("keep(" + k + ")", x.keep(k), UNKNOWN);
                due("back(" + k + ")", x.back(k), UNKNOWN);
            }
            due("back(0), nothing kept", x.back(0), NOT);
            due("back(1), nothing kept", x.back(1), NOT);
            due("keep(0)", x.keep(0), x.count(4));
            due("back(0)", x.back(0), x.count(4));
            due("back(1), nothing kept there", x.back(1), NOT);
            due("keep(1)", x.keep(1), x.count(4));
            due("back(1)", x.back(1), x.count(4));
        }
    }

    private static void keepFromNothingToSixty() {
        checks.about("24: THE SERMON and what is said of it are kept: LETTERS that are said");
        ThirdLetter x = Checks.told("word 0 " + TEN);
        due("no sermon", x.keep(0), 0);
        Checks.preachAll(x, 0, 0, 0, 0, 0, 0);
        due("nothing said", x.keep(1), 0);
        x.say(59);
        due("fifty-nine", x.keep(1), 59);
        due("keeping says nothing", x.count(4), 59);
        x.say(1);
        due("sixty", x.keep(1), 60);
        due("none back", x.back(0), 0);
        for (int what = 2; what <= 4; what++) due("count(" + what + ")", x.count(what), 0);
        due("sixty back", x.back(1), 60);
        due("words", x.count(2), 6);
        due("letters", x.count(3), 60);
        hears(x, TEN.repeat(6));
        due("full again", x.preach(0), FULL);
    }

    private static void backSinceTheLastText() {
        checks.about("25: NOT: nothing was kept since the last text");
        ThirdLetter x = Checks.told("word 0 abc");
        x.preach(0);
        x.keep(0);
        x.keep(1);
        Checks.write(x, "order 6");
        due("a text that is only written", x.back(0), 0);
        due("a text with a fault", x.order(), NOT);
        due("it was not done", x.back(1), 0);
        x.erase();
        due("nor erased ones", x.back(0), 0);
        due("a text", Checks.tell(x, "here 0"), 1);
        due("back(0)", x.back(0), NOT);
        due("back(1)", x.back(1), NOT);
        x.keep(1);
        due("kept since", x.back(1), 0);
        due("the other not", x.back(0), NOT);
    }

    private static void backAsTheyWereKept() {
        checks.about("25: they are as they were kept");
        ThirdLetter x = Checks.told("word 0 abc;word 1 de;not 1 1");
        Checks.preachAll(x, 0, 1);
        x.say(4);
        x.keep(0);
        x.amen();
        x.preach(0);
        due("kept said", x.back(0), 4);
        hears(x, "abcd");
        due("what is left", x.say(60), 5);
        due("the word ahead", x.preach(1), NOT);
        due("another word", x.preach(0), 8);
        due("once more", x.back(0), 4);
        due("letters", x.count(3), 5);
        due("turn", x.tally(2), 1);
        x.keep(1);
        x.amen();
        x.keep(0);
        due("kept anew", x.back(0), 0);
        due("the other stays", x.back(1), 4);
    }
}
