import java.util.ArrayList;
import java.util.HashMap;
import java.util.HashSet;
import java.util.List;
import java.util.Map;
import java.util.Set;
import java.util.TreeMap;
import java.util.regex.Matcher;
import java.util.regex.Pattern;

/**
 * Long runs of calls, compared with a second writing of the document that works from its words (edges as
 * segments, runs as pieces of text, margins one by one) and shares no code or method with the class.
 */
public final class DrcScanModel {
    private static final int RUNS = 400;
    private static final int CALLS = 512;
    private static int wrong = 0;
    private static long seed = 20261115L;

    private final List<List<int[]>> layers = new ArrayList<>();

    private DrcScanModel() {
        for (int n = 0; n < 3; n++) {
            layers.add(new ArrayList<>());
        }
    }

    public static void main(String[] args) {
        Map<String, Set<Integer>> seen = new TreeMap<>();
        for (int run = 0; run < RUNS && wrong < 20; run++) {
            DrcScan x = new DrcScan();
            DrcScanModel model = new DrcScanModel();
            // Small rectangles leave room for gaps; large ones over small ones, for margins.
            int[] sizes = {1 + pick(16), 1 + pick(16), 1 + pick(4)};
            int adds = pick(4);
            for (int call = 0; call < CALLS; call++) {
                step(x, model, sizes, adds, "run " + run + " call " + call, seen);
            }
        }
        poorTellsNothing(seen);
        System.out.println(wrong == 0 ? "the class and the model agree" : wrong + " answers differ");
        if (wrong != 0) {
            System.exit(1);
        }
    }

    /** Runs that never reach the interesting answers would agree for no good reason. */
    private static void poorTellsNothing(Map<String, Set<Integer>> seen) {
        for (Map.Entry<String, Set<Integer>> e : seen.entrySet()) {
            int least = e.getKey().equals("covers") ? 2 : 10;
            if (e.getValue().size() < least) {
                wrong++;
                System.out.println(e.getKey() + " had only the answers " + e.getValue());
            }
        }
    }

    private static int pick(int bound) {
        seed = seed * 6364136223846793005L + 1442695040888963407L;
        return (int) ((seed >>> 33) % bound);
    }

    private static int layer() {
        return pick(25) == 0 ? pick(7) - 2 : pick(3);
    }

    private static int span(int size) {
        if (pick(20) == 0) {
            return pick(700) - 50;
        }
        int length = 1 + pick(size);
        int start = pick(16 - length + 1);
        return 32 * start + start + length;
    }

    private static void step(DrcScan x, DrcScanModel m, int[] sizes, int adds, String where,
            Map<String, Set<Integer>> seen) {
        int a = layer();
        int b = layer();
        int how = pick(25) == 0 ? pick(7) - 2 : pick(3);
        int kind = pick(10) < adds ? 0 : pick(9);
        switch (kind) {
            case 0 -> {
                int size = in(0, a, 2) ? sizes[a] : 16;
                int xs = span(size);
                int ys = span(size);
                due(seen, where, "add", a + ", " + xs + ", " + ys, x.add(a, xs, ys), m.add(a, xs, ys));
            }
            case 1 -> due(seen, where, "drop", "" + a, x.drop(a), m.drop(a));
            case 2 -> {
                int i = pick(20) - 2;
                int j = pick(20) - 2;
                due(seen, where, "covers", a + ", " + i + ", " + j, x.covers(a, i, j) ? 1 : 0, m.covers(a, i, j));
            }
            case 3 -> due(seen, where, "area", how + ", " + a + ", " + b, x.area(how, a, b), m.area(how, a, b));
            case 4 -> due(seen, where, "outline", how + ", " + a + ", " + b, x.outline(how, a, b),
                m.outline(how, a, b));
            case 5 -> due(seen, where, "corners", how + ", " + a + ", " + b, x.corners(how, a, b),
                m.corners(how, a, b));
            case 6 -> {
                int w = pick(12) - 1;
                due(seen, where, "thin", a + ", " + w, x.thin(a, w), m.thin(a, w));
            }
            case 7 -> {
                int s = pick(12) - 1;
                due(seen, where, "gaps", a + ", " + s, x.gaps(a, s), m.gaps(a, s));
            }
            default -> due(seen, where, "enclosure", a + ", " + b, x.enclosure(a, b), m.enclosure(a, b));
        }
    }

    private static void due(Map<String, Set<Integer>> seen, String where, String name, String args, int got,
            int want) {
        seen.computeIfAbsent(name, k -> new HashSet<>()).add(want);
        if (got != want) {
            wrong++;
            System.out.println(where + ": " + name + "(" + args + ") answered " + got + ", due is " + want);
        }
    }

    private static boolean in(int low, int n, int high) {
        return low <= n && n <= high;
    }

    private int add(int layer, int x, int y) {
        if (!in(0, layer, 2) || x < 0 || y < 0) {
            return -2;
        }
        int[] r = {x >> 5, y >> 5, x & 31, y & 31};
        for (int part : r) {
            if (!in(0, part, 16)) {
                return -2;
            }
        }
        if (r[0] >= r[2] || r[1] >= r[3]) {
            return -2;
        }
        List<int[]> list = layers.get(layer);
        if (list.size() == 10) {
            return -3;
        }
        list.add(r);
        return list.size();
    }

    private int drop(int layer) {
        if (!in(0, layer, 2) || layers.get(layer).isEmpty()) {
            return -2;
        }
        layers.get(layer).remove(0);
        return layers.get(layer).size();
    }

    private Set<Integer> shape(int layer) {
        Set<Integer> cells = new HashSet<>();
        for (int[] r : layers.get(layer)) {
            for (int i = r[0]; i < r[2]; i++) {
                for (int j = r[1]; j < r[3]; j++) {
                    cells.add(100 * i + j);
                }
            }
        }
        return cells;
    }

    private Set<Integer> combined(int how, int a, int b) {
        if (!in(0, how, 2) || !in(0, a, 2) || !in(0, b, 2)) {
            return null;
        }
        Set<Integer> cells = shape(a);
        switch (how) {
            case 0 -> cells.retainAll(shape(b));
            case 1 -> cells.addAll(shape(b));
            default -> cells.removeAll(shape(b));
        }
        return cells;
    }

    private int covers(int layer, int i, int j) {
        return in(0, layer, 2) && in(0, i, 15) && in(0, j, 15) && shape(layer).contains(100 * i + j) ? 1 : 0;
    }

    private int area(int how, int a, int b) {
        Set<Integer> cells = combined(how, a, b);
        return cells == null ? -2 : cells.size();
    }

    /** Each edge as {x, y, 1 if it stands up}, from its lower or left end; a side of two cells of the set is none. */
    private static Set<List<Integer>> edges(Set<Integer> cells) {
        Set<List<Integer>> found = new HashSet<>();
        for (int cell : cells) {
            int i = cell / 100;
            int j = cell % 100;
            List<List<Integer>> sides =
                List.of(List.of(i, j, 1), List.of(i + 1, j, 1), List.of(i, j, 0), List.of(i, j + 1, 0));
            for (List<Integer> side : sides) {
                if (!found.remove(side)) {
                    found.add(side);
                }
            }
        }
        return found;
    }

    private int outline(int how, int a, int b) {
        Set<Integer> cells = combined(how, a, b);
        return cells == null ? -2 : edges(cells).size();
    }

    private int corners(int how, int a, int b) {
        Set<Integer> cells = combined(how, a, b);
        if (cells == null) {
            return -2;
        }
        int[][] standing = new int[17][17];
        int[][] lying = new int[17][17];
        for (List<Integer> e : edges(cells)) {
            int x = e.get(0);
            int y = e.get(1);
            if (e.get(2) == 1) {
                standing[x][y]++;
                standing[x][y + 1]++;
            } else {
                lying[x][y]++;
                lying[x + 1][y]++;
            }
        }
        int points = 0;
        for (int x = 0; x <= 16; x++) {
            for (int y = 0; y <= 16; y++) {
                if (standing[x][y] == 1 && lying[x][y] == 1) {
                    points++;
                }
            }
        }
        return points;
    }

    private static String line(Set<Integer> cells, int place, boolean row) {
        StringBuilder text = new StringBuilder();
        for (int n = 0; n < 16; n++) {
            text.append(cells.contains(row ? 100 * n + place : 100 * place + n) ? '#' : '.');
        }
        return text.toString();
    }

    /** The cells in pieces of a row or column that the pattern finds and that are shorter than the limit. */
    private static int found(Set<Integer> cells, Pattern pattern, int limit) {
        Set<Integer> marked = new HashSet<>();
        for (int place = 0; place < 16; place++) {
            for (int turn = 0; turn < 2; turn++) {
                Matcher piece = pattern.matcher(line(cells, place, turn == 0));
                while (piece.find()) {
                    for (int n = piece.start(); n < piece.end() && piece.end() - piece.start() < limit; n++) {
                        marked.add(turn == 0 ? 100 * n + place : 100 * place + n);
                    }
                }
            }
        }
        return marked.size();
    }

    private int thin(int layer, int w) {
        if (!in(0, layer, 2) || !in(1, w, 8)) {
            return -2;
        }
        return found(shape(layer), Pattern.compile("#+"), w);
    }

    private int gaps(int layer, int s) {
        if (!in(0, layer, 2) || !in(1, s, 8)) {
            return -2;
        }
        return found(shape(layer), Pattern.compile("(?<=#)\\.+(?=#)"), s);
    }

    private int enclosure(int a, int b) {
        if (!in(0, a, 2) || !in(0, b, 2)) {
            return -2;
        }
        Set<Integer> outer = shape(a);
        Set<Integer> grown = shape(b);
        int m = -1;
        // Growing by one column and row at a time comes to the same as growing by m at once.
        while (m < 8 && outer.containsAll(grown)) {
            m++;
            grown = grow(grown);
        }
        return m;
    }

    private static Set<Integer> grow(Set<Integer> cells) {
        Set<Integer> more = new HashSet<>();
        for (int cell : cells) {
            for (int i = Math.max(0, cell / 100 - 1); i <= Math.min(15, cell / 100 + 1); i++) {
                for (int j = Math.max(0, cell % 100 - 1); j <= Math.min(15, cell % 100 + 1); j++) {
                    more.add(100 * i + j);
                }
            }
        }
        return more;
    }
}
