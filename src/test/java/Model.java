import java.util.ArrayList;
import java.util.HashSet;
import java.util.List;
import java.util.Set;

/** The document once more, as plainly and slowly as texts allow: what Wordgarden is held against. */
public final class Model {
    private final String[] sheets = {"", "", ""};
    private final List<List<Integer>> turnRows = List.of(new ArrayList<>(), new ArrayList<>());
    private final int[] house = new int[4];

    // The parts of the terms.

    private static void index(boolean right) {
        if (!right) {
            throw new IndexOutOfBoundsException();
        }
    }

    private static void argument(boolean right) {
        if (!right) {
            throw new IllegalArgumentException();
        }
    }

    private static void sheetIs(int sheet) {
        index(sheet >= 0 && sheet <= 2);
    }

    private static void growthIs(int growth) {
        index(growth == 0 || growth == 1);
    }

    private static void ruleIs(int x, int y) {
        argument(x >= 2 && x <= 31 && y >= 2 && y <= 31);
    }

    static String decoded(int code) {
        return Integer.toBinaryString(code).substring(1).replace('0', 'a').replace('1', 'b');
    }

    static String image(String word, String x, String y) {
        StringBuilder out = new StringBuilder();
        for (char sign : word.toCharArray()) {
            out.append(sign == 'a' ? x : y);
        }
        return out.toString();
    }

    /** All words whose image the word is, up to two of them. */
    static void origins(String word, String x, String y, String done, boolean[] dead, List<String> found) {
        if (word.isEmpty()) {
            found.add(done);
            return;
        }
        if (dead[word.length()]) {
            return;
        }
        int before = found.size();
        if (word.startsWith(x)) {
            origins(word.substring(x.length()), x, y, done + "a", dead, found);
        }
        if (word.startsWith(y)) {
            origins(word.substring(y.length()), x, y, done + "b", dead, found);
        }
        dead[word.length()] = found.size() == before;
    }

    static String turned(String word) {
        return new StringBuilder(word).reverse().toString();
    }

    static boolean mirrored(String word) {
        return turned(word).equals(word);
    }

    static int bs(String word) {
        return word.replace("a", "").length();
    }

    static List<String> parts(String word, int length, boolean ring) {
        List<String> parts = new ArrayList<>();
        int n = word.length();
        if (ring) {
            for (int i = 0; i < n; i++) {
                parts.add((word + word).substring(i, i + length));
            }
            if (n == 0) {
                parts.add("");
            }
        } else {
            for (int i = 0; i + length <= n; i++) {
                parts.add(word.substring(i, i + length));
            }
        }
        return parts;
    }

    static String onLine(int n, int p, int s) {
        StringBuilder out = new StringBuilder();
        for (int i = 0; i < n; i++) {
            out.append(Math.floorMod(i * p + s, n) + p >= n ? 'b' : 'a');
        }
        return out.toString();
    }

    static String[] elderAndYounger(List<Integer> turns) {
        String elder = "b";
        String younger = "a";
        for (int t : turns) {
            String next = younger.repeat(t) + elder;
            elder = younger;
            younger = next;
        }
        return new String[] {elder, younger};
    }

    private String word(int growth, boolean elder) {
        return elderAndYounger(turnRows.get(growth))[elder ? 0 : 1];
    }

    private int sheetDone(int sheet, String word, int answer) {
        sheets[sheet] = word;
        house[0]++;
        return answer;
    }

    /** The sheet gets the word, and answers its length then, or -9 if it is too long. */
    private int fitted(int sheet, String word) {
        if (word.length() > 64) {
            house[2]++;
            return -9;
        }
        return sheetDone(sheet, word, word.length());
    }

    private int unlike(int sheet, String word) {
        return sheetDone(sheet, word, sheets[sheet].equals(word) ? 0 : 1);
    }

    // The face.

    public int write(int sheet, int code) {
        sheetIs(sheet);
        argument(code >= 1 && code <= 65535);
        return fitted(sheet, decoded(code));
    }

    public int append(int sheet, int other) {
        sheetIs(sheet);
        sheetIs(other);
        return fitted(sheet, sheets[sheet] + sheets[other]);
    }

    public int insertSign(int sheet, int place, boolean isB) {
        sheetIs(sheet);
        String w = sheets[sheet];
        index(place >= 0 && place <= w.length());
        return fitted(sheet, w.substring(0, place) + (isB ? "b" : "a") + w.substring(place));
    }

    public int insertSheet(int sheet, int place, int other) {
        sheetIs(sheet);
        sheetIs(other);
        String w = sheets[sheet];
        index(place >= 0 && place <= w.length());
        return fitted(sheet, w.substring(0, place) + sheets[other] + w.substring(place));
    }

    public int setSign(int sheet, int place, boolean isB) {
        sheetIs(sheet);
        String w = sheets[sheet];
        index(place >= 0 && place < w.length());
        return unlike(sheet, w.substring(0, place) + (isB ? "b" : "a") + w.substring(place + 1));
    }

    public int removeSign(int sheet, int place) {
        sheetIs(sheet);
        String w = sheets[sheet];
        index(place >= 0 && place < w.length());
        return sheetDone(sheet, w.substring(0, place) + w.substring(place + 1), w.charAt(place) == 'b' ? 1 : 0);
    }

    public int remove(int sheet, int from, int to) {
        sheetIs(sheet);
        String w = sheets[sheet];
        index(0 <= from && from <= to && to <= w.length());
        return sheetDone(sheet, w.substring(0, from) + w.substring(to), bs(w.substring(from, to)));
    }

    public int replace(int sheet, int from, int to, int other) {
        sheetIs(sheet);
        sheetIs(other);
        String w = sheets[sheet];
        index(0 <= from && from <= to && to <= w.length());
        return fitted(sheet, w.substring(0, from) + sheets[other] + w.substring(to));
    }

    public int cutTo(int sheet, int length) {
        sheetIs(sheet);
        argument(length >= 0 && length <= 64);
        String w = sheets[sheet];
        return sheetDone(sheet, (w + "a".repeat(64)).substring(0, length), w.length());
    }

    public int turn(int sheet) {
        sheetIs(sheet);
        return unlike(sheet, turned(sheets[sheet]));
    }

    public int exchange(int sheet) {
        sheetIs(sheet);
        String w = image(sheets[sheet], "b", "a");
        return sheetDone(sheet, w, bs(w));
    }

    public int rotate(int sheet, int many) {
        sheetIs(sheet);
        String w = sheets[sheet];
        argument(many >= 0 && many <= w.length());
        return unlike(sheet, w.substring(many) + w.substring(0, many));
    }

    public int copy(int sheet, int into) {
        sheetIs(sheet);
        sheetIs(into);
        return unlike(into, sheets[sheet]);
    }

    public int apply(int sheet, int x, int y) {
        sheetIs(sheet);
        ruleIs(x, y);
        return fitted(sheet, image(sheets[sheet], decoded(x), decoded(y)));
    }

    public int undo(int sheet, int x, int y) {
        sheetIs(sheet);
        ruleIs(x, y);
        if (!isApart(x, y)) {
            throw new IllegalStateException();
        }
        List<String> found = new ArrayList<>();
        origins(sheets[sheet], decoded(x), decoded(y), "", new boolean[65], found);
        if (found.size() > 1) {
            throw new AssertionError("two words have one image");
        }
        if (found.isEmpty()) {
            house[2]++;
            return -9;
        }
        return fitted(sheet, found.get(0));
    }

    public int lay(int growth, int sheet, int road) {
        growthIs(growth);
        sheetIs(sheet);
        argument(road >= 0 && road <= 2);
        return fitted(sheet, word(growth, false));
    }

    public int twos(int sheet, int step, int road) {
        sheetIs(sheet);
        argument(step >= 0 && step <= 6 && road >= 0 && road <= 2);
        String w = "a";
        for (int k = 0; k < step; k++) {
            w = w + image(w, "b", "a");
        }
        return fitted(sheet, w);
    }

    public int line(int sheet, int length, int rise, int shift) {
        sheetIs(sheet);
        argument(length >= 1 && length <= 64 && rise >= 0 && rise <= length && shift >= 0 && shift < length);
        return unlike(sheet, onLine(length, rise, shift));
    }

    public int grow(int growth, int turn) {
        growthIs(growth);
        argument(turn >= 1 && turn <= 3);
        List<Integer> turns = turnRows.get(growth);
        turns.add(turn);
        if (word(growth, false).length() > 64) {
            turns.remove(turns.size() - 1);
            house[2]++;
            return -9;
        }
        house[1]++;
        return word(growth, false).length();
    }

    public int shrink(int growth) {
        growthIs(growth);
        List<Integer> turns = turnRows.get(growth);
        if (turns.isEmpty()) {
            throw new IllegalStateException();
        }
        house[1]++;
        return turns.remove(turns.size() - 1);
    }

    public int fresh(int growth) {
        growthIs(growth);
        List<Integer> turns = turnRows.get(growth);
        int had = turns.size();
        turns.clear();
        house[1]++;
        return had;
    }

    public int length(int sheet) {
        sheetIs(sheet);
        return sheets[sheet].length();
    }

    public boolean isB(int sheet, int place) {
        sheetIs(sheet);
        index(place >= 0 && place < sheets[sheet].length());
        return sheets[sheet].charAt(place) == 'b';
    }

    public String text(int sheet) {
        sheetIs(sheet);
        return sheets[sheet];
    }

    public int count(int sheet, boolean isB) {
        sheetIs(sheet);
        return isB ? bs(sheets[sheet]) : sheets[sheet].length() - bs(sheets[sheet]);
    }

    public int find(int sheet, int other, int from) {
        sheetIs(sheet);
        sheetIs(other);
        index(from >= 0 && from <= sheets[sheet].length());
        return sheets[sheet].indexOf(sheets[other], from);
    }

    public int findLast(int sheet, int other, int from) {
        sheetIs(sheet);
        sheetIs(other);
        index(from >= 0 && from <= sheets[sheet].length());
        return sheets[sheet].lastIndexOf(sheets[other], from);
    }

    public int order(int sheet, int other) {
        sheetIs(sheet);
        sheetIs(other);
        return Integer.signum(sheets[sheet].compareTo(sheets[other]));
    }

    public boolean isMirrored(int sheet) {
        sheetIs(sheet);
        return mirrored(sheets[sheet]);
    }

    public int spread(int sheet, int length, boolean isRing) {
        sheetIs(sheet);
        argument(length >= 0 && length <= sheets[sheet].length());
        List<Integer> counts = parts(sheets[sheet], length, isRing).stream().map(Model::bs).sorted().toList();
        return counts.get(counts.size() - 1) - counts.get(0);
    }

    public int kinds(int sheet, int length, boolean isRing) {
        sheetIs(sheet);
        argument(length >= 0 && length <= sheets[sheet].length());
        return new HashSet<>(parts(sheets[sheet], length, isRing)).size();
    }

    public int times(int sheet) {
        sheetIs(sheet);
        String w = sheets[sheet];
        int most = 0;
        for (int length = 1; length <= w.length(); length++) {
            for (String part : new HashSet<>(parts(w, length, false))) {
                while (w.contains(part.repeat(most + 1))) {
                    most++;
                }
            }
        }
        return most;
    }

    public int overlaps(int sheet) {
        sheetIs(sheet);
        String w = sheets[sheet];
        int overlaps = 0;
        for (int i = 0; i < w.length(); i++) {
            for (int p = 1; i + 2 * p < w.length(); p++) {
                if (w.substring(i, i + p + 1).equals(w.substring(i + p, i + 2 * p + 1))) {
                    overlaps++;
                }
            }
        }
        return overlaps;
    }

    public int mirrors(int sheet) {
        sheetIs(sheet);
        Set<String> mirrors = new HashSet<>();
        for (int length = 1; length <= sheets[sheet].length(); length++) {
            parts(sheets[sheet], length, false).stream().filter(Model::mirrored).forEach(mirrors::add);
        }
        return mirrors.size();
    }

    public int folds(int sheet) {
        sheetIs(sheet);
        String w = sheets[sheet];
        int folds = 0;
        for (int p = 0; p < w.length(); p++) {
            folds += mirrored(w.substring(0, p)) && mirrored(w.substring(p)) ? 1 : 0;
        }
        return folds;
    }

    public int least(int sheet) {
        sheetIs(sheet);
        List<String> ring = parts(sheets[sheet], sheets[sheet].length(), true);
        return ring.indexOf(ring.stream().sorted().toList().get(0));
    }

    public boolean isApart(int x, int y) {
        ruleIs(x, y);
        return !(decoded(x) + decoded(y)).equals(decoded(y) + decoded(x));
    }

    public String turns(int growth) {
        growthIs(growth);
        StringBuilder out = new StringBuilder();
        turnRows.get(growth).forEach(out::append);
        return out.toString();
    }

    public String grown(int growth, boolean isElder) {
        growthIs(growth);
        return word(growth, isElder);
    }

    public int size(int growth, boolean isElder) {
        growthIs(growth);
        return word(growth, isElder).length();
    }

    public int ups(int growth, boolean isElder) {
        growthIs(growth);
        return bs(word(growth, isElder));
    }

    public int cross(int growth) {
        return size(growth, false) * ups(growth, true) - size(growth, true) * ups(growth, false);
    }

    public int alike(int growth) {
        growthIs(growth);
        String one = word(growth, false) + word(growth, true);
        String other = word(growth, true) + word(growth, false);
        int place = 0;
        while (one.charAt(place) == other.charAt(place)) {
            place++;
        }
        return place;
    }

    public int house(int what) {
        argument(what >= 0 && what <= 3);
        return house[what];
    }

    public int knock() {
        return ++house[3];
    }

    public boolean isSound() {
        return true;
    }

    public long digest() {
        List<Number> row = new ArrayList<>();
        for (int s = 0; s < 3; s++) {
            row.add(length(s));
            for (char sign : text(s).toCharArray()) {
                row.add(sign == 'a' ? 1 : 2);
            }
            row.add(count(s, true));
            row.add(isMirrored(s) ? 1 : 0);
            row.addAll(List.of(times(s), overlaps(s), folds(s), least(s)));
        }
        for (int g = 0; g < 2; g++) {
            row.add(turnRows.get(g).size());
            row.addAll(turnRows.get(g));
            row.addAll(List.of(size(g, false), size(g, true), ups(g, false), ups(g, true), cross(g), alike(g)));
        }
        row.addAll(List.of(house[0], house[1], house[2], house[3], 1));
        long d = 7979;
        for (Number v : row) {
            d = d * 31 + v.longValue();
        }
        return d;
    }
}
