import java.util.ArrayList;
import java.util.List;

/**
 * The document once more, written as plainly as it goes and by other ways than the program:
 * every position tried for every grip, every grip for every plan, and a tab's first wrong sign
 * found by trying every length of line.
 */
final class SlowHands {
    record Note(int pitch, int string) { }

    record Grip(int position, List<Integer> strings, int cost) { }

    final List<Integer> strings = new ArrayList<>();
    List<List<Note>> events = new ArrayList<>();
    int neck = 12;
    int capo = 0;
    final int[] weights = {1, 1, 1, 1};
    String tape = "";
    int place = -1;
    List<Integer> numbers = null;

    int string(int pitch) {
        if (pitch < 0 || pitch > 99) return -2;
        if (!events.isEmpty()) return -4;
        if (strings.size() == 7) return -5;
        strings.add(pitch);
        numbers = null;
        return strings.size();
    }

    int clear() {
        int n = events.size();
        strings.clear();
        events.clear();
        numbers = null;
        return n;
    }

    int neck(int n) {
        if (n < 1 || n > 24 || n <= capo) return -2;
        int old = neck;
        neck = n;
        numbers = null;
        return old;
    }

    int capo(int n) {
        if (n < 0 || n > neck - 1) return -2;
        int old = capo;
        capo = n;
        numbers = null;
        return old;
    }

    int weight(int kind, int w) {
        if (kind < 0 || kind > 3 || w < 0 || w > 20) return -2;
        int old = weights[kind];
        weights[kind] = w;
        numbers = null;
        return old;
    }

    int event(int pitch) {
        if (pitch < 0 || pitch > 123) return -2;
        if (events.size() == 40) return -5;
        List<Note> event = new ArrayList<>();
        event.add(new Note(pitch, -1));
        events.add(event);
        numbers = null;
        return events.size() - 1;
    }

    int pitch(int pitch) {
        if (pitch < 0 || pitch > 123) return -2;
        if (events.isEmpty()) return -4;
        List<Note> last = events.get(events.size() - 1);
        for (Note note : last) if (note.pitch() == pitch) return -2;
        if (last.size() == 4) return -5;
        last.add(new Note(pitch, -1));
        numbers = null;
        return last.size();
    }

    int bind(int event, int i, int string) {
        if (event < 0 || event >= events.size()) return -3;
        List<Note> notes = events.get(event);
        if (i < 0 || i >= notes.size() || string < -1 || string >= strings.size()) return -2;
        Note old = notes.get(i);
        notes.set(i, new Note(old.pitch(), string));
        numbers = null;
        return old.string();
    }

    int drop() {
        if (events.isEmpty()) return -4;
        events.remove(events.size() - 1);
        numbers = null;
        return events.size();
    }

    int told(int what) {
        int[] all = {strings.size(), neck, capo, events.size(), tape.length()};
        return what < 0 || what >= all.length ? -2 : all[what];
    }

    int at(int event, int i) {
        if (event < 0 || event >= events.size()) return -3;
        return i < 0 || i >= events.get(event).size() ? -1 : events.get(event).get(i).pitch();
    }

    int bound(int event, int i) {
        if (event < 0 || event >= events.size()) return -3;
        return i < 0 || i >= events.get(event).size() ? -1 : events.get(event).get(i).string();
    }

    int fret(int string, int pitch) {
        if (string < 0 || string >= strings.size()) return -2;
        for (int f = capo; f <= neck; f++) if (strings.get(string) + f == pitch) return f;
        return -1;
    }

    List<Grip> allGrips(int event) {
        List<Grip> all = new ArrayList<>();
        for (int p = capo + 1; p <= neck; p++) {
            hold(event, p, new ArrayList<>(), 0, all);
        }
        return all;
    }

    private void hold(int event, int p, List<Integer> held, int cost, List<Grip> all) {
        List<Note> notes = events.get(event);
        if (held.size() == notes.size()) {
            all.add(new Grip(p, new ArrayList<>(held), cost));
            return;
        }
        Note note = notes.get(held.size());
        for (int s = 0; s < strings.size(); s++) {
            int f = fret(s, note.pitch());
            if (f == -1 || held.contains(s) || (note.string() != -1 && note.string() != s)) continue;
            boolean open = f == capo;
            if (!open && (f < p || f > p + 3)) continue;
            int c = open ? weights[3] : weights[1] * (f - capo) + (f == p + 3 ? weights[2] : 0);
            held.add(s);
            hold(event, p, held, cost + c, all);
            held.remove(held.size() - 1);
        }
    }

    int grips(int event) {
        return event < 0 || event >= events.size() ? -3 : allGrips(event).size();
    }

    int grip(int event, int k, int what) {
        if (event < 0 || event >= events.size()) return -3;
        if (what < 0 || what > 5) return -2;
        List<Grip> all = allGrips(event);
        return k < 0 || k >= all.size() ? -1 : part(all.get(k), what);
    }

    private static int part(Grip grip, int what) {
        if (what == 0) return grip.position();
        if (what == 5) return grip.cost();
        return what <= grip.strings().size() ? grip.strings().get(what - 1) : -1;
    }

    /** Of each event all grips, and behind each the least sum to the end and its ways. */
    private record Table(List<List<Grip>> grips, long[][] sums, long[][] ways) { }

    private Table table() {
        int n = events.size();
        List<List<Grip>> grips = new ArrayList<>();
        for (int e = 0; e < n; e++) {
            grips.add(allGrips(e));
            if (grips.get(e).isEmpty()) return null;
        }
        long[][] sums = new long[n][];
        long[][] ways = new long[n][];
        for (int e = n - 1; e >= 0; e--) {
            int size = grips.get(e).size();
            sums[e] = new long[size];
            ways[e] = new long[size];
            for (int k = 0; k < size; k++) {
                Grip grip = grips.get(e).get(k);
                long best = e == n - 1 ? 0 : Long.MAX_VALUE;
                long many = e == n - 1 ? 1 : 0;
                for (int j = 0; e < n - 1 && j < grips.get(e + 1).size(); j++) {
                    long sum = sums[e + 1][j] + apart(grip, grips.get(e + 1).get(j));
                    if (sum < best) {
                        best = sum;
                        many = 0;
                    }
                    if (sum == best) many = Math.min(999999, many + ways[e + 1][j]);
                }
                sums[e][k] = best + grip.cost();
                ways[e][k] = many;
            }
        }
        return new Table(grips, sums, ways);
    }

    private long apart(Grip a, Grip b) {
        return (long) weights[0] * Math.abs(a.position() - b.position());
    }

    int plan() {
        if (events.isEmpty()) return -4;
        numbers = null;
        Table t = table();
        if (t == null) return -1;
        numbers = new ArrayList<>();
        long sum = 0;
        for (int e = 0; e < events.size(); e++) {
            int best = -1;
            long least = Long.MAX_VALUE;
            for (int k = 0; k < t.grips().get(e).size(); k++) {
                long way = e == 0 ? 0 : apart(t.grips().get(e - 1).get(numbers.get(e - 1)), t.grips().get(e).get(k));
                if (t.sums()[e][k] + way < least) {
                    least = t.sums()[e][k] + way;
                    best = k;
                }
            }
            if (e == 0) sum = least;
            numbers.add(best);
        }
        return (int) sum;
    }

    int planned(int event, int what) {
        if (what < 0 || what > 6) return -2;
        if (numbers == null || event < 0 || event >= numbers.size()) return -1;
        return what == 6 ? numbers.get(event) : part(allGrips(event).get(numbers.get(event)), what);
    }

    int ties() {
        if (events.isEmpty()) return -4;
        Table t = table();
        if (t == null) return 0;
        long least = Long.MAX_VALUE;
        for (long sum : t.sums()[0]) least = Math.min(least, sum);
        long many = 0;
        for (int k = 0; k < t.sums()[0].length; k++) if (t.sums()[0][k] == least) many += t.ways()[0][k];
        return (int) Math.min(999999, many);
    }

    int sign(int c) {
        if (c < 1 || c > 127) return -2;
        if (tape.length() == 2000) return -5;
        tape += (char) c;
        return tape.length();
    }

    int tape(int i) {
        return i < 0 || i >= tape.length() ? -1 : tape.charAt(i);
    }

    int empty() {
        int n = tape.length();
        tape = "";
        return n;
    }

    int write() {
        if (numbers == null) return -4;
        int m = strings.size();
        String[] lines = new String[m];
        for (int s = 0; s < m; s++) lines[s] = "|";
        for (int e = 0; e < events.size(); e++) {
            Grip grip = allGrips(e).get(numbers.get(e));
            String[] cells = new String[m];
            int longest = 0;
            for (int s = 0; s < m; s++) {
                int i = grip.strings().indexOf(s);
                cells[s] = i < 0 ? "" : "" + (events.get(e).get(i).pitch() - strings.get(s) - capo);
                longest = Math.max(longest, cells[s].length());
            }
            for (int s = 0; s < m; s++) lines[s] += "-" + cells[s] + "-".repeat(longest - cells[s].length());
        }
        tape = "";
        for (int s = m - 1; s >= 0; s--) tape += lines[s] + "-|\n";
        return tape.length();
    }

    int read() {
        if (strings.isEmpty()) return -4;
        String text = tape;
        tape = "";
        place = wrongSign(text);
        if (place != -1) return -11;
        return readNumbers(text);
    }

    int place() {
        return place;
    }

    /** The first sign behind which no tab can begin so; -1 for a whole tab. */
    private int wrongSign(String text) {
        int furthest = 0;
        for (int width = 3; width <= text.length() + 3; width++) {
            int i = 0;
            while (i < text.length() && i < width * strings.size() && stands(text.charAt(i), i % width, width)) i++;
            if (i == text.length() && i == width * strings.size()) return -1;
            furthest = Math.max(furthest, i);
        }
        return furthest;
    }

    private static boolean stands(char c, int column, int width) {
        if (column == width - 1) return c == '\n';
        if (column == 0 || column == width - 2) return c == '|';
        return "0123456789-".indexOf(c) >= 0;
    }

    private record Number(int string, int column, int place, String digits) {
        int value() {
            return Integer.parseInt(digits);
        }
    }

    private int readNumbers(String text) {
        List<Number> all = new ArrayList<>();
        java.util.regex.Matcher m = java.util.regex.Pattern.compile("[0-9]+").matcher(text);
        int width = text.indexOf('\n') + 1;
        while (m.find()) {
            all.add(new Number(strings.size() - 1 - m.start() / width, m.start() % width, m.start(), m.group()));
        }
        for (Number n : all) {
            String d = n.digits();
            if (d.length() > 2 || (d.length() == 2 && d.charAt(0) == '0') || n.value() + capo > neck) return fault(2, n.place());
        }
        for (Number n : all) for (Number o : all) {
            if (o.digits().length() == 2 && o.column() + 1 == n.column() && o.string() != n.string()) return fault(3, n.place());
        }
        java.util.TreeMap<Integer, List<Number>> columns = new java.util.TreeMap<>();
        for (int i = all.size() - 1; i >= 0; i--) {
            columns.computeIfAbsent(all.get(i).column(), c -> new ArrayList<>()).add(all.get(i));
        }
        int first = Integer.MAX_VALUE;
        List<List<Note>> found = new ArrayList<>();
        int surplus = -1;
        for (List<Number> column : columns.values()) {
            List<Note> notes = new ArrayList<>();
            java.util.Set<Integer> pitches = new java.util.HashSet<>();
            for (Number n : column) {
                notes.add(new Note(strings.get(n.string()) + capo + n.value(), n.string()));
                pitches.add(notes.get(notes.size() - 1).pitch());
            }
            if (column.size() > 4 || pitches.size() < column.size()) first = Math.min(first, column.get(0).place());
            found.add(notes);
            if (found.size() == 41) surplus = column.get(0).place();
        }
        if (first != Integer.MAX_VALUE) return fault(4, first);
        if (surplus != -1) return fault(5, surplus);
        events = found;
        numbers = null;
        return events.size();
    }

    private int fault(int number, int where) {
        place = where;
        return -10 - number;
    }
}
