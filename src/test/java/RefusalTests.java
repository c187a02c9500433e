import java.util.EnumSet;
import java.util.Set;
import java.util.function.Supplier;
import java.util.function.ToIntFunction;

/**
 * "Refused, and nothing changes: UNKNOWN, OUTSIDE, NOT, FULL: the first of these that fits." Each call is asked of a
 * new object, of one in the midst of all things, and of a full one; what can be told of the object afterwards is held
 * against one of which it was not asked.
 */
public final class RefusalTests {
    private static final int NONE = ThirdLetter.NONE, UNKNOWN = ThirdLetter.UNKNOWN, OUTSIDE = ThirdLetter.OUTSIDE;
    private static final int NOT = ThirdLetter.NOT, FULL = ThirdLetter.FULL;
    private static final int LEAST = Integer.MIN_VALUE, MOST = Integer.MAX_VALUE;

    private static final Checks checks = new Checks("refusals");

    private static Supplier<ThirdLetter> state = ThirdLetter::new;

    private RefusalTests() {
    }

    public static void main(String[] args) {
        refusedOfANewObject();
        numbersOutsideOfANewObject();
        refusedAmidAll();
        numbersOutsideAmidAll();
        faultAmidAll();
        refusedOfAFullObject();
        firstThatFits();
        foretellingChangesNothing();
        eachCallChangesItsOwnPart();
        checks.end();
    }

    /** Four voices and words, a sermon half said, two kept, a sound of five, a text. */
    private static ThirdLetter amidAll() {
        ThirdLetter x = Checks.told(
            "order 4;word 0 a;word 1 b;word 2 c;word 0 abcabcabca;not 2 2;away 1;hoarse 2;late 3 1");
        Checks.preachAll(x, 3, 0, 1);
        x.say(7);
        x.keep(0);
        Checks.preachAll(x, 2, 3);
        x.say(60);
        x.keep(1);
        x.amen();
        Checks.preachAll(x, 3, 0, 2);
        x.say(5);
        Checks.soundAs(x, "a.bcz");
        Checks.write(x, "free;order 2");
        return x;
    }

    private static ThirdLetter amidAllWithAFault() {
        ThirdLetter x = amidAll();
        x.erase();
        Checks.write(x, "order 2;away 1;late 1 3;not 0 0;word 2 zz;free;order 6");
        return x;
    }

    /** Twelve words, sixty letters of sermon and of sound, a text of two hundred bytes. */
    private static ThirdLetter full() {
        ThirdLetter x = Checks.told("order 5;word 0 abcdefghij;word 1 b;word 2 c;word 0 d;word 0 e;word 0 f;word 0 g",
            "word 0 h;word 0 i;word 0 j;word 1 k;word 2 lm;not 0 1");
        Checks.preachAll(x, 0, 0, 0, 0, 0, 0);
        x.say(60);
        x.keep(0);
        x.listen();
        Checks.write(x, "free" + " ".repeat(195) + ";");
        return x;
    }

    private static void about(String subject, Supplier<ThirdLetter> made) {
        checks.about(subject);
        state = made;
    }

    private static Supplier<ThirdLetter> after(ToIntFunction<ThirdLetter> ask) {
        return () -> {
            ThirdLetter x = state.get();
            ask.applyAsInt(x);
            return x;
        };
    }

    private static void answers(String call, int want, ToIntFunction<ThirdLetter> ask) {
        checks.due(call, ask.applyAsInt(state.get()), want);
        changesOnly(call, EnumSet.noneOf(Look.class), ask);
    }

    /** Each of the parts is another one behind the call, the others are as they were. */
    private static void changesOnly(String call, Set<Look> parts, ToIntFunction<ThirdLetter> ask) {
        for (Look part : Look.values()) {
            String before = part.at(state);
            String behind = part.at(after(ask));
            boolean due = parts.contains(part) != before.equals(behind);
            checks.holds(part + " behind " + call + " is " + behind + ", it was " + before, due);
        }
    }

    private static void refusedOfANewObject() {
        about("a new object", ThirdLetter::new);
        answers("order()", NOT, x -> x.order());
        answers("word(0, 0)", UNKNOWN, x -> x.word(0, 0));
        answers("voice(3, 0)", UNKNOWN, x -> x.voice(3, 0));
        answers("preach(0)", UNKNOWN, x -> x.preach(0));
        answers("fits(0, 0)", UNKNOWN, x -> x.fits(0, 0));
        answers("alone(0, 0)", UNKNOWN, x -> x.alone(0, 0));
        answers("twins(3, 0)", UNKNOWN, x -> x.twins(3, 0));
        answers("learnt(0, 0, 0)", NOT, x -> x.learnt(0, 0, 0));
        answers("learnt(2, 1, 1)", NOT, x -> x.learnt(2, 1, 1));
        answers("keep(2)", UNKNOWN, x -> x.keep(2));
        answers("back(0)", NOT, x -> x.back(0));
        answers("back(1)", NOT, x -> x.back(1));
    }

    private static void numbersOutsideOfANewObject() {
        about("a new object", ThirdLetter::new);
        for (int n : new int[] {LEAST, -1, 0, 9, MOST}) answers("write(32, " + n + ")", OUTSIDE, x -> x.write(32, n));
        for (int n : new int[] {LEAST, -1, 0, 61, MOST}) answers("say(" + n + ")", OUTSIDE, x -> x.say(n));
        for (int i : new int[] {LEAST, -1}) answers("heard(" + i + ")", OUTSIDE, x -> x.heard(i));
        for (int letter : new int[] {LEAST, -1, 27, MOST}) {
            answers("sound(" + letter + ")", OUTSIDE, x -> x.sound(letter));
        }
        for (int i : new int[] {LEAST, -2}) answers("seats(" + i + ")", OUTSIDE, x -> x.seats(i));
    }

    private static void refusedAmidAll() {
        about("amid all", RefusalTests::amidAll);
        for (int word : new int[] {LEAST, -1, 4, MOST}) {
            answers("word(" + word + ", 0)", UNKNOWN, x -> x.word(word, 0));
            answers("preach(" + word + ")", UNKNOWN, x -> x.preach(word));
            answers("fits(" + word + ", 0)", UNKNOWN, x -> x.fits(word, 0));
            answers("alone(" + word + ", 1)", UNKNOWN, x -> x.alone(word, 1));
        }
        for (int voice : new int[] {LEAST, -1, 4, MOST}) {
            answers("voice(" + voice + ", 0)", UNKNOWN, x -> x.voice(voice, 0));
            answers("twins(" + voice + ", 0)", UNKNOWN, x -> x.twins(voice, 0));
            answers("learnt(" + voice + ", 0, 0)", UNKNOWN, x -> x.learnt(voice, 0, 0));
        }
        for (int k : new int[] {LEAST, -1, 2, MOST}) {
            answers("keep(" + k + ")", UNKNOWN, x -> x.keep(k));
            answers("back(" + k + ")", UNKNOWN, x -> x.back(k));
        }
        answers("preach(2)", NOT, x -> x.preach(2));
        answers("came(0)", NOT, x -> x.came(0));
        answers("came(1)", NOT, x -> x.came(1));
    }

    private static void numbersOutsideAmidAll() {
        about("amid all", RefusalTests::amidAll);
        for (int n : new int[] {LEAST, -1, 0, 9, MOST}) answers("write(32, " + n + ")", OUTSIDE, x -> x.write(32, n));
        for (int what : new int[] {LEAST, -1, 2, 9, 20, MOST}) {
            answers("word(0, " + what + ")", OUTSIDE, x -> x.word(0, what));
        }
        for (int what : new int[] {LEAST, -1, 4, MOST}) {
            answers("voice(0, " + what + ")", OUTSIDE, x -> x.voice(0, what));
        }
        for (int n : new int[] {LEAST, -1, 0, 61, MOST}) answers("say(" + n + ")", OUTSIDE, x -> x.say(n));
        for (int i : new int[] {LEAST, -1}) answers("heard(" + i + ")", OUTSIDE, x -> x.heard(i));
        for (int what : new int[] {LEAST, -1, 3, MOST}) answers("tally(" + what + ")", OUTSIDE, x -> x.tally(what));
        for (int letter : new int[] {LEAST, -1, 27, MOST}) {
            answers("sound(" + letter + ")", OUTSIDE, x -> x.sound(letter));
        }
        for (int from : new int[] {LEAST, -1, 6, MOST}) answers("fits(0, " + from + ")", OUTSIDE, x -> x.fits(0, from));
        for (int what : new int[] {LEAST, -1, 2, 9, 16, MOST}) {
            answers("readings(" + what + ")", OUTSIDE, x -> x.readings(what));
        }
        for (int set : new int[] {LEAST, -1, 16, MOST}) answers("alone(0, " + set + ")", OUTSIDE, x -> x.alone(0, set));
        for (int what : new int[] {LEAST, -1, 2, MOST}) {
            answers("came(" + what + ")", OUTSIDE, x -> x.came(what));
            answers("twins(0, " + what + ")", OUTSIDE, x -> x.twins(0, what));
            answers("learnt(0, " + what + ", 0)", OUTSIDE, x -> x.learnt(0, what, 0));
            answers("learnt(0, 0, " + what + ")", OUTSIDE, x -> x.learnt(0, 0, what));
            answers("bears(" + what + ")", OUTSIDE, x -> x.bears(what));
        }
        for (int i : new int[] {LEAST, -2}) answers("seats(" + i + ")", OUTSIDE, x -> x.seats(i));
        for (int what : new int[] {LEAST, -1, 8, MOST}) answers("count(" + what + ")", OUTSIDE, x -> x.count(what));
    }

    private static void faultAmidAll() {
        about("amid all, a text with a fault", RefusalTests::amidAllWithAFault);
        answers("fault()", 53, x -> x.fault());
        answers("order()", NOT, x -> x.order());
    }

    private static void refusedOfAFullObject() {
        about("a full object", RefusalTests::full);
        answers("write(32, 1)", FULL, x -> x.write(32, 1));
        answers("write(32, 8)", FULL, x -> x.write(32, 8));
        answers("order()", NOT, x -> x.order());
        answers("preach(0)", FULL, x -> x.preach(0));
        answers("preach(2)", FULL, x -> x.preach(2));
        answers("preach(1)", NOT, x -> x.preach(1));
        answers("preach(12)", UNKNOWN, x -> x.preach(12));
        answers("sound(0)", FULL, x -> x.sound(0));
        answers("sound(26)", FULL, x -> x.sound(26));
        answers("fits(0, 61)", OUTSIDE, x -> x.fits(0, 61));
        answers("alone(0, 32)", OUTSIDE, x -> x.alone(0, 32));
        answers("voice(5, 0)", UNKNOWN, x -> x.voice(5, 0));
        answers("back(1)", NOT, x -> x.back(1));
        about("a text of 196 bytes", () -> {
            ThirdLetter x = full();
            x.erase();
            Checks.write(x, "free" + " ".repeat(191) + ";");
            return x;
        });
        answers("write(.., 5)", FULL, x -> x.write(0x2065657266L, 5));
        checks.due("write(.., 4)", state.get().write(0x65657266L, 4), 200);
    }

    private static void firstThatFits() {
        about("the first that fits, a full object", RefusalTests::full);
        answers("write(32, 0)", OUTSIDE, x -> x.write(32, 0));
        answers("write(32, 9)", OUTSIDE, x -> x.write(32, 9));
        answers("word(12, 2)", UNKNOWN, x -> x.word(12, 2));
        answers("voice(5, 4)", UNKNOWN, x -> x.voice(5, 4));
        answers("preach(-1)", UNKNOWN, x -> x.preach(-1));
        answers("preach(1)", NOT, x -> x.preach(1));
        answers("sound(27)", OUTSIDE, x -> x.sound(27));
        answers("sound(-1)", OUTSIDE, x -> x.sound(-1));
        answers("fits(12, 61)", UNKNOWN, x -> x.fits(12, 61));
        answers("alone(12, 32)", UNKNOWN, x -> x.alone(12, 32));
        answers("twins(5, 2)", UNKNOWN, x -> x.twins(5, 2));
        answers("learnt(5, 2, 2)", UNKNOWN, x -> x.learnt(5, 2, 2));
        answers("back(2)", UNKNOWN, x -> x.back(2));
        about("the first that fits, amid all", RefusalTests::amidAll);
        answers("came(2)", OUTSIDE, x -> x.came(2));
        about("the first that fits, a new object", ThirdLetter::new);
        answers("learnt(3, 0, 0)", UNKNOWN, x -> x.learnt(3, 0, 0));
        answers("learnt(0, 2, 0)", OUTSIDE, x -> x.learnt(0, 2, 0));
        answers("learnt(0, 0, 2)", OUTSIDE, x -> x.learnt(0, 0, 2));
        answers("word(0, 2)", UNKNOWN, x -> x.word(0, 2));
        answers("fits(0, 1)", UNKNOWN, x -> x.fits(0, 1));
        answers("alone(0, 8)", UNKNOWN, x -> x.alone(0, 8));
        answers("back(2)", UNKNOWN, x -> x.back(2));
    }

    private static void unchanged(String call, ToIntFunction<ThirdLetter> ask) {
        changesOnly(call, EnumSet.noneOf(Look.class), ask);
    }

    /** "FORETOLD (nothing changes)", and calls that only tell what is. */
    private static void foretellingChangesNothing() {
        for (Supplier<ThirdLetter> made : Set.<Supplier<ThirdLetter>>of(RefusalTests::amidAll, RefusalTests::full)) {
            about("foretold, nothing changes", made);
            unchanged("fault()", x -> x.fault());
            for (int i : new int[] {0, 5, MOST}) unchanged("heard(" + i + ")", x -> x.heard(i));
            for (int what : new int[] {0, 1, 10, 15}) unchanged("readings(" + what + ")", x -> x.readings(what));
            for (int what : new int[] {0, 1, 10, 19}) unchanged("word(3, " + what + ")", x -> x.word(3, what));
            for (int what : new int[] {0, 1}) {
                unchanged("came(" + what + ")", x -> x.came(what));
                unchanged("twins(1, " + what + ")", x -> x.twins(1, what));
                unchanged("learnt(1, " + what + ", 0)", x -> x.learnt(1, what, 0));
                unchanged("learnt(1, 1, " + what + ")", x -> x.learnt(1, 1, what));
                unchanged("bears(" + what + ")", x -> x.bears(what));
            }
            for (int what : new int[] {0, 1, 2}) unchanged("tally(" + what + ")", x -> x.tally(what));
            for (int what : new int[] {0, 1, 2, 3}) unchanged("voice(2, " + what + ")", x -> x.voice(2, what));
            for (int what = 0; what <= 7; what++) unchangedByCount(what);
            for (int set : new int[] {0, 5, 15}) unchanged("alone(3, " + set + ")", x -> x.alone(3, set));
            for (int i : new int[] {NONE, 0, 3, 5, MOST}) unchanged("seats(" + i + ")", x -> x.seats(i));
            for (int from : new int[] {0, 5}) unchanged("fits(3, " + from + ")", x -> x.fits(3, from));
        }
    }

    private static void unchangedByCount(int what) {
        unchanged("count(" + what + ")", x -> x.count(what));
    }

    private static void eachCallChangesItsOwnPart() {
        about("what each call changes", RefusalTests::amidAll);
        changesOnly("write", EnumSet.of(Look.TEXT), x -> x.write(';', 1));
        changesOnly("erase", EnumSet.of(Look.TEXT), x -> x.erase());
        changesOnly("preach", EnumSet.of(Look.SERMON), x -> x.preach(0));
        changesOnly("amen", EnumSet.of(Look.SERMON), x -> x.amen());
        changesOnly("say", EnumSet.of(Look.SERMON), x -> x.say(1));
        changesOnly("sound", EnumSet.of(Look.SOUND), x -> x.sound(0));
        changesOnly("listen", EnumSet.of(Look.SOUND), x -> x.listen());
        changesOnly("hush", EnumSet.of(Look.SOUND), x -> x.hush());
        changesOnly("keep(0)", EnumSet.of(Look.KEPT_0), x -> x.keep(0));
        changesOnly("keep(1)", EnumSet.of(Look.KEPT_1), x -> x.keep(1));
        changesOnly("back(0)", EnumSet.of(Look.SERMON), x -> x.back(0));
        changesOnly("back(1)", EnumSet.of(Look.SERMON), x -> x.back(1));
        changesOnly("order", EnumSet.allOf(Look.class), x -> x.order());
    }
}
