import java.util.function.Supplier;

/**
 * What calls can tell of an object, part by part, as a row of answers. Some asking changes the object, so each part
 * is asked of one that is made anew; no look needs more than 300 calls, so that the 512 of an object are kept.
 */
enum Look {
    LIST, VOICES, TEXT, SERMON, SOUND, KEPT_0, KEPT_1;

    private static final int WORDS_TO_FIT = 4;

    String at(Supplier<ThirdLetter> made) {
        ThirdLetter x = made.get();
        StringBuilder row = new StringBuilder();
        switch (this) {
            case LIST: list(x, row); break;
            case VOICES: voices(x, row); break;
            case TEXT: text(x, row); break;
            case SERMON: sermon(x, row); break;
            case SOUND: sound(x, row); break;
            case KEPT_0: kept(x, row, 0); break;
            default: kept(x, row, 1); break;
        }
        return row.toString();
    }

    private static void put(StringBuilder row, int answer) {
        row.append(answer).append(' ');
    }

    private static void list(ThirdLetter x, StringBuilder row) {
        int words = x.count(1);
        put(row, words);
        put(row, x.count(7));
        for (int word = 0; word < words; word++) {
            int length = x.word(word, 0);
            put(row, length);
            put(row, x.word(word, 1));
            for (int k = 0; k < length; k++) put(row, x.word(word, 10 + k));
        }
    }

    private static void voices(ThirdLetter x, StringBuilder row) {
        int voices = x.count(0);
        put(row, voices);
        for (int i = 0; i < 3 * voices; i++) put(row, x.voice(i / 3, i % 3));
    }

    /** Of a text without a fault also what it does. */
    private static void text(ThirdLetter x, StringBuilder row) {
        put(row, x.count(6));
        put(row, x.fault());
        put(row, x.order());
        list(x, row);
        voices(x, row);
    }

    /** Also what is heard of the rest, and what may follow the last word. */
    private static void sermon(ThirdLetter x, StringBuilder row) {
        for (int what = 2; what <= 4; what++) put(row, x.count(what));
        for (int what = 0; what <= 2; what++) put(row, x.tally(what));
        int voices = x.count(0);
        for (int voice = 0; voice < voices; voice++) put(row, x.voice(voice, 3));
        put(row, x.say(60));
        row.append(Checks.heardRow(x)).append(' ');
        int words = x.count(1);
        for (int word = 0; word < words; word++) put(row, x.preach(word));
        put(row, x.amen());
    }

    private static void sound(ThirdLetter x, StringBuilder row) {
        int length = x.count(5);
        put(row, length);
        int words = Math.min(WORDS_TO_FIT, x.count(1));
        for (int word = 0; word < words; word++) {
            for (int from = 0; from <= length; from++) put(row, x.fits(word, from));
        }
        put(row, x.readings(0));
        put(row, x.hush());
    }

    private static void kept(ThirdLetter x, StringBuilder row, int k) {
        int said = x.back(k);
        put(row, said);
        if (said >= 0) sermon(x, row);
    }
}
