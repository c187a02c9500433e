import java.util.ArrayList;
import java.util.HashMap;
import java.util.List;
import java.util.Map;
import java.util.regex.Matcher;
import java.util.regex.Pattern;

/** The document once more, by trying everything: rows of words, of late, of seats, sets of words. */
final class Model {
    private static final int NONE = -1, UNKNOWN = -2, OUTSIDE = -3, NOT = -4, FULL = -5;
    private static final Pattern TOKEN = Pattern.compile("[a-z]+|[0-9]+|[^ ]", Pattern.DOTALL);

    /** What texts tell. */
    private static final class World {
        int voices = 3;
        List<String> words = new ArrayList<>();
        List<Integer> sorts = new ArrayList<>();
        boolean[][] may = {{true, true, true}, {true, true, true}, {true, true, true}};
        boolean[] away = new boolean[5];
        boolean[] hoarse = new boolean[5];
        int[] late = new int[5];
        int lines;

        World copy() {
            World w = new World();
            w.voices = voices;
            w.words = new ArrayList<>(words);
            w.sorts = new ArrayList<>(sorts);
            w.may = new boolean[][] {may[0].clone(), may[1].clone(), may[2].clone()};
            w.away = away.clone();
            w.hoarse = hoarse.clone();
            w.late = late.clone();
            return w;
        }
    }

    private World world = new World();
    private String text = "";
    private List<Integer> sermon = new ArrayList<>();
    private int said;
    private List<Integer> sound = new ArrayList<>();
    private final List<List<Integer>> kept = new ArrayList<>(List.of(List.of(), List.of()));
    private final int[] keptSaid = {NONE, NONE};

    int write(long bytes, int n) {
        if (n < 1 || n > 8) return OUTSIDE;
        if (text.length() + n > 200) return FULL;
        for (int i = 0; i < n; i++) text += (char) (bytes >>> 8 * i & 255);
        return text.length();
    }

    int erase() {
        int had = text.length();
        text = "";
        return had;
    }

    int fault() {
        return doLines(world.copy());
    }

    int order() {
        World next = world.copy();
        if (doLines(next) != NONE) return NOT;
        world = next;
        text = "";
        sermon = new ArrayList<>();
        said = 0;
        sound = new ArrayList<>();
        keptSaid[0] = NONE;
        keptSaid[1] = NONE;
        return world.lines;
    }

    /** Does lines until a token cannot stand where it is; answers its place, or NONE. */
    private int doLines(World w) {
        List<String> tokens = new ArrayList<>();
        List<Integer> places = new ArrayList<>();
        Matcher m = TOKEN.matcher(text);
        while (m.find()) {
            tokens.add(m.group());
            places.add(m.start());
        }
        tokens.add("");
        places.add(text.length());
        int at = 0;
        w.lines = 0;
        while (true) {
            List<String> parts = new ArrayList<>();
            String form = formOf(tokens.get(at));
            for (char c : form.toCharArray()) {
                if (!canStand(w, c, tokens.get(at))) return places.get(at);
                parts.add(tokens.get(at++));
            }
            doLine(w, parts);
            w.lines++;
            if (tokens.get(at).isEmpty()) return NONE;
            if (!tokens.get(at).equals(";") || w.lines == 12) return places.get(at);
            at++;
        }
    }

    private static String formOf(String name) {
        switch (name) {
            case "order": return "kV";
            case "word": return "wSL";
            case "not": return "kSS";
            case "free": return "k";
            case "away": case "here": case "hoarse": case "clear": return "kI";
            case "late": return "kIN";
            default: return "x";
        }
    }

    private static boolean canStand(World w, char part, String token) {
        switch (part) {
            case 'k': return true;
            case 'w': return w.words.size() < 12;
            case 'V': return token.matches("0?[1-5]");
            case 'S': return token.matches("0?[0-2]");
            case 'N': return token.matches("0?[0-3]");
            case 'I': return token.matches("[0-9]{1,2}") && Integer.parseInt(token) < w.voices;
            case 'L': return token.matches("[a-z]{1,10}") && !w.words.contains(token);
            default: return false;
        }
    }

    private static void doLine(World w, List<String> parts) {
        int first = parts.size() > 1 ? Integer.parseInt(parts.get(1)) : 0;
        switch (parts.get(0)) {
            case "order":
                w.voices = first;
                w.away = new boolean[5];
                w.hoarse = new boolean[5];
                w.late = new int[5];
                break;
            case "word":
                w.words.add(parts.get(2));
                w.sorts.add(first);
                break;
            case "not": w.may[first][Integer.parseInt(parts.get(2))] = false; break;
            case "free":
                w.words.clear();
                w.sorts.clear();
                for (boolean[] row : w.may) java.util.Arrays.fill(row, true);
                break;
            case "away": w.away[first] = true; break;
            case "here": w.away[first] = false; break;
            case "hoarse": w.hoarse[first] = true; break;
            case "clear": w.hoarse[first] = false; break;
            default: w.late[first] = Integer.parseInt(parts.get(2)); break;
        }
    }

    private boolean hasWord(int word) {
        return word >= 0 && word < world.words.size();
    }

    private boolean hasVoice(int voice) {
        return voice >= 0 && voice < world.voices;
    }

    int word(int word, int what) {
        if (!hasWord(word)) return UNKNOWN;
        String w = world.words.get(word);
        if (what == 0) return w.length();
        if (what == 1) return world.sorts.get(word);
        if (what < 10 || what > 19) return OUTSIDE;
        return what - 10 < w.length() ? w.charAt(what - 10) - 'a' + 1 : NONE;
    }

    int voice(int voice, int what) {
        if (!hasVoice(voice)) return UNKNOWN;
        if (what < 0 || what > 3) return OUTSIDE;
        if (what == 0) return world.away[voice] ? 1 : 0;
        if (what == 1) return world.hoarse[voice] ? 1 : 0;
        if (what == 2) return world.late[voice];
        int n = 0;
        String row = heardRow(letters(), world.away, world.hoarse, world.late);
        for (int i = voice; i < said; i += world.voices) if (row.charAt(i) != '.') n++;
        return n;
    }

    private String letters() {
        StringBuilder all = new StringBuilder();
        for (int word : sermon) all.append(world.words.get(word));
        return all.toString();
    }

    /** Each voice goes through its own letters, one after the other. */
    private String heardRow(String all, boolean[] away, boolean[] hoarse, int[] late) {
        char[] row = ".".repeat(all.length()).toCharArray();
        for (int voice = 0; voice < world.voices; voice++) {
            int leaveOut = late[voice];
            boolean clear = true;
            for (int i = voice; i < all.length(); i += world.voices) {
                if (leaveOut > 0) {
                    leaveOut--;
                    continue;
                }
                if (!away[voice] && clear) row[i] = all.charAt(i);
                clear = !hoarse[voice] || !clear;
            }
        }
        return new String(row);
    }

    int preach(int word) {
        if (!hasWord(word)) return UNKNOWN;
        if (!sermon.isEmpty()) {
            int last = sermon.get(sermon.size() - 1);
            if (!world.may[world.sorts.get(last)][world.sorts.get(word)]) return NOT;
        }
        if (sermon.size() == 6 || letters().length() + world.words.get(word).length() > 60) return FULL;
        sermon.add(word);
        return letters().length();
    }

    int amen() {
        int had = sermon.size();
        sermon = new ArrayList<>();
        said = 0;
        return had;
    }

    int say(int n) {
        if (n < 1 || n > 60) return OUTSIDE;
        said = Math.min(letters().length(), said + n);
        return said;
    }

    private static int number(char c) {
        return c == '.' ? 0 : c - 'a' + 1;
    }

    int heard(int i) {
        if (i < 0) return OUTSIDE;
        if (i >= said) return NONE;
        return number(heardRow(letters(), world.away, world.hoarse, world.late).charAt(i));
    }

    int tally(int what) {
        if (what < 0 || what > 2) return OUTSIDE;
        if (what == 2) return said == letters().length() ? NONE : said % world.voices;
        int holes = 0;
        for (int i = 0; i < said; i++) if (heard(i) == 0) holes++;
        return what == 0 ? holes : said - holes;
    }

    int sound(int letter) {
        if (letter < 0 || letter > 26) return OUTSIDE;
        if (sound.size() == 60) return FULL;
        sound.add(letter);
        return sound.size();
    }

    int listen() {
        sound = new ArrayList<>();
        for (int i = 0; i < said; i++) sound.add(heard(i));
        return said;
    }

    int hush() {
        int had = sound.size();
        sound = new ArrayList<>();
        return had;
    }

    int fits(int word, int from) {
        if (!hasWord(word)) return UNKNOWN;
        if (from < 0 || from > sound.size()) return OUTSIDE;
        String w = world.words.get(word);
        if (from + w.length() > sound.size()) return 0;
        for (int k = 0; k < w.length(); k++) {
            if (sound.get(from + k) != 0 && sound.get(from + k) != w.charAt(k) - 'a' + 1) return 0;
        }
        return 1;
    }

    private int readingTotal;
    private int readingWords;
    private List<Integer> firstReading;

    private void tryReadings(List<Integer> row, int place) {
        if (!row.isEmpty() && place == sound.size()) {
            if (readingTotal++ == 0) firstReading = new ArrayList<>(row);
            for (int word : row) readingWords |= 1 << word;
        }
        if (row.size() == 6) return;
        for (int word = 0; word < world.words.size(); word++) {
            boolean may = row.isEmpty() || world.may[world.sorts.get(row.get(row.size() - 1))][world.sorts.get(word)];
            if (!may || fits(word, place) != 1) continue;
            row.add(word);
            tryReadings(row, place + world.words.get(word).length());
            row.remove(row.size() - 1);
        }
    }

    int readings(int what) {
        if (what != 0 && what != 1 && (what < 10 || what > 15)) return OUTSIDE;
        readingTotal = 0;
        readingWords = 0;
        firstReading = new ArrayList<>();
        tryReadings(new ArrayList<>(), 0);
        if (what == 0) return readingTotal;
        if (what == 1) return readingWords;
        return what - 10 < firstReading.size() ? firstReading.get(what - 10) : NONE;
    }

    int came(int what) {
        if (what != 0 && what != 1) return OUTSIDE;
        String all = letters();
        if (sound.size() != all.length()) return NOT;
        int total = 0;
        int first = NONE;
        for (int code = 0; code < 1 << 2 * world.voices; code++) {
            int[] late = new int[5];
            for (int voice = 0; voice < world.voices; voice++) late[voice] = code >> 2 * (world.voices - 1 - voice) & 3;
            String row = heardRow(all, new boolean[5], new boolean[5], late);
            boolean same = true;
            for (int i = 0; i < row.length(); i++) same &= number(row.charAt(i)) == sound.get(i);
            if (same && total++ == 0) first = code;
        }
        return what == 0 ? total : first;
    }

    private String saidBy(String word, int set) {
        StringBuilder left = new StringBuilder();
        for (int i = 0; i < word.length(); i++) if ((set >> i % world.voices & 1) == 1) left.append(word.charAt(i));
        return left.toString();
    }

    int alone(int word, int set) {
        if (!hasWord(word)) return UNKNOWN;
        if (set < 0 || set >= 1 << world.voices) return OUTSIDE;
        return world.words.indexOf(saidBy(world.words.get(word), set));
    }

    int twins(int voice, int what) {
        if (!hasVoice(voice)) return UNKNOWN;
        if (what != 0 && what != 1) return OUTSIDE;
        int total = 0;
        int first = NONE;
        for (int a = 0; a < world.words.size(); a++) {
            for (int b = 0; b < world.words.size(); b++) {
                String left = saidBy(world.words.get(a), 31 & ~(1 << voice));
                if (a != b && left.equals(world.words.get(b)) && total++ == 0) first = 20 * a + b;
            }
        }
        return what == 0 ? total : first;
    }

    int learnt(int voice, int what, int part) {
        if (!hasVoice(voice)) return UNKNOWN;
        if (what < 0 || what > 1 || part < 0 || part > 1) return OUTSIDE;
        if (world.words.isEmpty()) return NOT;
        Map<String, Integer> sizes = new HashMap<>();
        for (String w : world.words) sizes.merge(w.length() + saidBy(w, 1 << voice), 1, Integer::sum);
        // 27720 is divided by every number up to 12
        long above = 0;
        for (String w : world.words) {
            int size = sizes.get(w.length() + saidBy(w, 1 << voice));
            above += what == 0 ? 27720L * size : 27720L / size;
        }
        long below = 27720L * world.words.size();
        long d = java.math.BigInteger.valueOf(above).gcd(java.math.BigInteger.valueOf(below)).longValue();
        return (int) (part == 0 ? above / d : below / d);
    }

    private int fewest;
    private List<Integer> bestRow;

    private void trySeats(List<Integer> row) {
        if (row.size() == world.voices) {
            int spoilt = spoiltBy(row);
            if (fewest == NONE || spoilt < fewest) {
                fewest = spoilt;
                bestRow = new ArrayList<>(row);
            }
            return;
        }
        for (int voice = 0; voice < world.voices; voice++) {
            if (row.contains(voice)) continue;
            row.add(voice);
            trySeats(row);
            row.remove(row.size() - 1);
        }
    }

    private int spoiltBy(List<Integer> row) {
        int holes = 0;
        for (String word : world.words) {
            int[] turns = new int[5];
            for (int i = 0; i < word.length(); i++) {
                int voice = row.get(i % world.voices);
                turns[voice]++;
                if (world.away[voice] || world.hoarse[voice] && turns[voice] % 2 == 0) holes++;
            }
        }
        return holes;
    }

    int seats(int i) {
        if (i < NONE) return OUTSIDE;
        fewest = NONE;
        trySeats(new ArrayList<>());
        if (i == NONE) return fewest;
        return i < world.voices ? bestRow.get(i) : NONE;
    }

    private boolean bearsSet(int set) {
        for (int a = 0; a < world.words.size(); a++) {
            for (int b = 0; b < a; b++) {
                String one = world.words.get(a);
                String other = world.words.get(b);
                if ((set >> a & set >> b & 1) == 0 || one.length() != other.length()) continue;
                for (int voice = 0; voice < world.voices; voice++) {
                    int others = 31 & ~(1 << voice);
                    if (saidBy(one, others).equals(saidBy(other, others))) return false;
                }
            }
        }
        return true;
    }

    int bears(int what) {
        if (what != 0 && what != 1) return OUTSIDE;
        int best = 0;
        for (int set = 0; set < 1 << world.words.size(); set++) {
            if (Integer.bitCount(set) > Integer.bitCount(best) && bearsSet(set)) best = set;
        }
        return what == 0 ? Integer.bitCount(best) : best;
    }

    int keep(int k) {
        if (k != 0 && k != 1) return UNKNOWN;
        kept.set(k, List.copyOf(sermon));
        keptSaid[k] = said;
        return said;
    }

    int back(int k) {
        if (k != 0 && k != 1) return UNKNOWN;
        if (keptSaid[k] == NONE) return NOT;
        sermon = new ArrayList<>(kept.get(k));
        said = keptSaid[k];
        return said;
    }

    int count(int what) {
        switch (what) {
            case 0: return world.voices;
            case 1: return world.words.size();
            case 2: return sermon.size();
            case 3: return letters().length();
            case 4: return said;
            case 5: return sound.size();
            case 6: return text.length();
            case 7: break;
            default: return OUTSIDE;
        }
        int bits = 0;
        for (int i = 0; i < 9; i++) if (world.may[i / 3][i % 3]) bits |= 1 << i;
        return bits;
    }
}
