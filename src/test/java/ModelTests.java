import java.nio.charset.StandardCharsets;
import java.util.Random;

/** Long runs of drawn calls, each answer held against the model that tries everything. */
public final class ModelTests {
    private static final int RUNS = 400;
    private static final int CALLS = 512;
    /** The most calls that one draw makes. */
    private static final int LONGEST = 44;
    private static final int[] WILD = {Integer.MIN_VALUE, -1000, -6, -5, -4, -3, -2, -1, 6, 7, 8, 9, 12, 16, 20, 31, 32,
        60, 61, 100, 1 << 20, Integer.MAX_VALUE};

    private final Checks checks;
    private final Random random;
    private final int letters;
    private final int longest;
    private final ThirdLetter x = new ThirdLetter();
    private final Model model = new Model();
    private int calls;

    private ModelTests(Checks checks, int seed) {
        this.checks = checks;
        random = new Random(seed);
        letters = 1 + random.nextInt(4);
        longest = 2 + random.nextInt(9);
        checks.about("run " + seed);
    }

    public static void main(String[] args) {
        Checks checks = new Checks("model");
        for (int seed = 1; seed <= RUNS && checks.wrong() < 20; seed++) new ModelTests(checks, seed).run();
        checks.end();
    }

    private void run() {
        tellText();
        while (calls < CALLS - LONGEST) {
            int draw = random.nextInt(100);
            if (draw < 4) tellText();
            else if (draw < 6) preachMuch();
            else if (draw < 10) soundMuch();
            else one(random.nextInt(26), drawn(), drawn(), drawn());
        }
    }

    private int drawn() {
        int draw = random.nextInt(20);
        if (draw == 0) return WILD[random.nextInt(WILD.length)];
        if (draw < 6) return 10 + random.nextInt(10);
        return random.nextInt(draw < 14 ? 3 : 13) - (draw == 19 ? 1 : 0);
    }

    private void due(String call, int got, int want) {
        calls++;
        checks.due("call " + calls + ", " + call, got, want);
    }

    private void tellText() {
        if (random.nextInt(3) == 0) due("erase()", x.erase(), model.erase());
        byte[] bytes = drawnText().getBytes(StandardCharsets.ISO_8859_1);
        for (int from = 0; from < bytes.length; from += 8) {
            int n = Math.min(8, bytes.length - from);
            long packed = random.nextLong() << 32;
            if (n > 3) packed = 0;
            for (int i = 0; i < n; i++) packed = packed & ~(255L << 8 * i) | (bytes[from + i] & 255L) << 8 * i;
            due("write(" + packed + ", " + n + ")", x.write(packed, n), model.write(packed, n));
        }
        due("fault()", x.fault(), model.fault());
        due("order()", x.order(), model.order());
        if (model.count(6) > 0 && random.nextInt(4) > 0) due("erase()", x.erase(), model.erase());
    }

    private String drawnText() {
        StringBuilder text = new StringBuilder();
        int lines = 1 + random.nextInt(random.nextInt(8) == 0 ? 14 : 9);
        for (int i = 0; i < lines; i++) {
            if (i > 0) text.append(random.nextInt(10) == 0 ? " ; " : ";");
            text.append(drawnLine());
        }
        if (random.nextInt(6) == 0 && text.length() > 0) spoil(text);
        return text.toString();
    }

    private String drawnLine() {
        int voice = random.nextInt(random.nextInt(6) == 0 ? 5 : Math.max(1, model.count(0)));
        switch (random.nextInt(24)) {
            case 0: return "order " + (random.nextInt(12) == 0 ? random.nextInt(8) : 1 + random.nextInt(5));
            case 1: case 2: return "not " + random.nextInt(3) + " " + random.nextInt(3);
            case 3: return random.nextInt(3) == 0 ? "free" : "here " + voice;
            case 4: return "away " + voice;
            case 5: return "hoarse " + voice;
            case 6: return "clear " + voice;
            case 7: return "here " + voice;
            case 8: case 9: return "late " + voice + " " + random.nextInt(random.nextInt(12) == 0 ? 5 : 4);
            default: return "word " + random.nextInt(3) + " " + drawnWord();
        }
    }

    private String drawnWord() {
        int length = random.nextInt(60) == 0 ? 11 : 1 + random.nextInt(longest);
        StringBuilder word = new StringBuilder();
        for (int i = 0; i < length; i++) word.append((char) ('a' + random.nextInt(letters)));
        return word.toString();
    }

    private void spoil(StringBuilder text) {
        int at = random.nextInt(text.length());
        switch (random.nextInt(5)) {
            case 0: text.deleteCharAt(at); break;
            case 1: text.setCharAt(at, (char) random.nextInt(256)); break;
            case 2: text.insert(at, ' '); break;
            case 3: text.insert(at, random.nextInt(10)); break;
            default: text.setLength(at); break;
        }
    }

    private void preachMuch() {
        due("amen()", x.amen(), model.amen());
        for (int i = 0; i < 7 && model.count(1) > 0; i++) {
            int word = random.nextInt(model.count(1));
            due("preach(" + word + ")", x.preach(word), model.preach(word));
        }
        int n = 1 + random.nextInt(60);
        due("say(" + n + ")", x.say(n), model.say(n));
        due("say(60)", x.say(60), model.say(60));
        due("listen()", x.listen(), model.listen());
        askForetold();
    }

    /** Sound that is nearly a sermon of a few words: few readings, so that the model ends soon. */
    private void soundMuch() {
        due("hush()", x.hush(), model.hush());
        int words = 1 + random.nextInt(3);
        for (int i = 0; i < words && model.count(1) > 0; i++) {
            int word = random.nextInt(model.count(1));
            for (int k = 0; model.word(word, 10 + k) > 0; k++) {
                int letter = random.nextInt(4) == 0 ? 0 : model.word(word, 10 + k);
                due("sound(" + letter + ")", x.sound(letter), model.sound(letter));
                if (k == 9) break;
            }
        }
        askForetold();
    }

    private void askForetold() {
        for (int what : new int[] {0, 1, 10, 11, 12}) {
            due("readings(" + what + ")", x.readings(what), model.readings(what));
        }
        for (int what = 0; what < 2; what++) {
            due("came(" + what + ")", x.came(what), model.came(what));
            due("bears(" + what + ")", x.bears(what), model.bears(what));
        }
    }

    private void one(int call, int a, int b, int c) {
        switch (call) {
            case 0: due("count(" + a + ")", x.count(a), model.count(a)); break;
            case 1: due("fault()", x.fault(), model.fault()); break;
            case 2: due("word(" + a + ", " + b + ")", x.word(a, b), model.word(a, b)); break;
            case 3: due("voice(" + a + ", " + b + ")", x.voice(a, b), model.voice(a, b)); break;
            case 4: case 5: due("preach(" + a + ")", x.preach(a), model.preach(a)); break;
            case 6: if (random.nextInt(4) == 0) due("amen()", x.amen(), model.amen()); break;
            case 7: case 8: due("say(" + a + ")", x.say(a), model.say(a)); break;
            case 9: due("heard(" + a + ")", x.heard(a), model.heard(a)); break;
            case 10: due("tally(" + a + ")", x.tally(a), model.tally(a)); break;
            case 11: case 12: due("sound(" + a + ")", x.sound(a), model.sound(a)); break;
            case 13: due("listen()", x.listen(), model.listen()); break;
            case 14: if (random.nextInt(4) == 0) due("hush()", x.hush(), model.hush()); break;
            case 15: due("fits(" + a + ", " + b + ")", x.fits(a, b), model.fits(a, b)); break;
            case 16: due("readings(" + a + ")", x.readings(a), model.readings(a)); break;
            case 17: due("came(" + a + ")", x.came(a), model.came(a)); break;
            case 18: due("alone(" + a + ", " + b + ")", x.alone(a, b), model.alone(a, b)); break;
            case 19: due("twins(" + a + ", " + b + ")", x.twins(a, b), model.twins(a, b)); break;
            case 20: due("learnt(" + a + ", " + b + ", " + c + ")", x.learnt(a, b, c), model.learnt(a, b, c)); break;
            case 21: due("seats(" + a + ")", x.seats(a), model.seats(a)); break;
            case 22: due("bears(" + a + ")", x.bears(a), model.bears(a)); break;
            case 23: due("keep(" + a + ")", x.keep(a), model.keep(a)); break;
            case 24: due("back(" + a + ")", x.back(a), model.back(a)); break;
            default: due("erase()", x.erase(), model.erase()); break;
        }
    }
}
