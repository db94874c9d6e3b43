import java.util.ArrayDeque;
import java.util.ArrayList;
import java.util.Arrays;
import java.util.Deque;
import java.util.HashMap;
import java.util.HashSet;
import java.util.List;
import java.util.Map;
import java.util.Set;

/** The document once more, cell by cell and without regard to cost, to hold DryPlaces against. */
final class Model {
    static final int NONE = -1;
    private static final int[][] SIDES = {{-1, 0}, {1, 0}, {0, -1}, {0, 1}};

    static final class Spot {
        boolean[][] dry = new boolean[8][8];
        int year;
        int room = NONE;
        boolean owned;
        boolean hosed;
        int paid;

        Spot copy() {
            Spot to = new Spot();
            for (int r = 0; r < 8; r++) {
                to.dry[r] = dry[r].clone();
            }
            to.year = year;
            to.room = room;
            to.owned = owned;
            to.hosed = hosed;
            to.paid = paid;
            return to;
        }
    }

    static final class Stand {
        List<Spot> spots = new ArrayList<>();
        int[] light = new int[6];
        int purse;
        int seen;
        int day;
        int state;
        List<int[]> book = new ArrayList<>();

        Stand copy() {
            Stand to = new Stand();
            for (Spot spot : spots) {
                to.spots.add(spot.copy());
            }
            to.light = light.clone();
            to.purse = purse;
            to.seen = seen;
            to.day = day;
            to.state = state;
            to.book = new ArrayList<>(book);
            return to;
        }
    }

    private Stand now = new Stand();
    private ModelTexts texts = new ModelTexts();
    private StringBuilder tape = new StringBuilder();
    private int fault = 0;
    private int faultAt = NONE;
    private Deque<Stand> past = new ArrayDeque<>();
    private Stand imageStand;
    private ModelTexts imageTexts;

    int state(int v) {
        past.clear();
        int was = now.state;
        now.state = v;
        return was;
    }

    int place(int year) {
        if (year < 0 || year > 99 || now.spots.size() == 10) {
            return NONE;
        }
        past.clear();
        Spot spot = new Spot();
        spot.year = year;
        now.spots.add(spot);
        return now.spots.size() - 1;
    }

    boolean row(int p, int row, int dry) {
        if (no(p) || row < 0 || row > 7 || dry < 0 || dry > 255) {
            return false;
        }
        past.clear();
        for (int c = 0; c < 8; c++) {
            now.spots.get(p).dry[row][c] = (dry & 1 << c) != 0;
        }
        return true;
    }

    boolean purse(int v) {
        if (v < 0 || v > 99999) {
            return false;
        }
        past.clear();
        now.purse = v;
        return true;
    }

    boolean act(int what, int who, int v) {
        Stand before = now.copy();
        if (!tryAct(now, what, who, v)) {
            return false;
        }
        keep(before);
        return true;
    }

    private void keep(Stand before) {
        past.push(before);
        if (past.size() > 6) {
            past.removeLast();
        }
    }

    private boolean tryAct(Stand s, int what, int who, int v) {
        if (what == 3) {
            if (who < 0 || who > 5 || v < 0 || v > 9) {
                return false;
            }
            s.light[who] = v;
            return true;
        }
        if (who < 0 || who >= s.spots.size()) {
            return false;
        }
        Spot spot = s.spots.get(who);
        int worth = told(s, spot, "worth", 0);
        if (what == 0 && !spot.owned && worth <= s.purse) {
            s.purse -= worth;
            spot.paid = worth;
            spot.owned = true;
            note(s, 0, who, worth);
            return true;
        }
        if (what == 1 && spot.owned) {
            s.purse = Math.min(99999, s.purse + worth);
            spot.paid = 0;
            spot.room = NONE;
            spot.owned = false;
            note(s, 1, who, worth);
            return true;
        }
        if (what == 2 && spot.owned && v >= 0 && v <= 5) {
            spot.room = v;
            note(s, 2, who, v);
            return true;
        }
        if (what == 4 && v >= 0 && v <= 7) {
            spot.hosed = true;
            spot.dry[v] = new boolean[8];
            note(s, 3, who, v);
            return true;
        }
        if (what == 5 && spot.owned && v >= 0 && v <= 63 && spot.dry[v / 8][v % 8]) {
            spot.dry[v / 8][v % 8] = false;
            return true;
        }
        return false;
    }

    private static void note(Stand s, int what, int which, int much) {
        if (s.book.size() < 150) {
            s.book.add(new int[] {s.day, what, which, much});
        }
    }

    int days(int n) {
        if (n < 1 || n > 60 || now.day + n > 9999) {
            return NONE;
        }
        int crept = 0;
        for (int i = 0; i < n; i++) {
            keep(now.copy());
            crept += pass(now, false);
        }
        return crept;
    }

    private int pass(Stand s, boolean thinking) {
        for (int[] entry : texts.diary) {
            if (entry[0] == s.day) {
                tryAct(s, entry[1], entry[2], entry[3]);
            }
        }
        int crept = 0;
        for (int p = 0; p < s.spots.size(); p++) {
            Spot spot = s.spots.get(p);
            if (!spot.owned || spot.room == NONE) {
                continue;
            }
            List<Integer> gone = new ArrayList<>();
            for (int cell = 0; cell < 64; cell++) {
                int wet = wetAround(spot.dry, cell / 8, cell % 8);
                if (!spot.dry[cell / 8][cell % 8] || wet == 0) {
                    continue;
                }
                int creeps = told(s, spot, "creeps", wet);
                if (thinking ? creeps >= 500 : creeps > 0 && draw(s, 1000) < creeps) {
                    gone.add(cell);
                }
            }
            for (int cell : gone) {
                spot.dry[cell / 8][cell % 8] = false;
            }
            if (!gone.isEmpty()) {
                note(s, 4, p, gone.size());
            }
            crept += gone.size();
        }
        for (int p = 0; p < s.spots.size(); p++) {
            Spot spot = s.spots.get(p);
            if (spot.owned && spot.room != NONE) {
                int comes = told(s, spot, "comes", 0);
                s.seen += comes;
                s.purse = Math.min(99999, s.purse + comes);
                if (comes > 0) {
                    note(s, 5, p, comes);
                }
            }
        }
        s.day++;
        return crept;
    }

    private static int draw(Stand s, int m) {
        s.state = 1664525 * s.state + 1013904223;
        long unsigned = s.state & 0xFFFFFFFFL;
        return (int) (unsigned / 256 % m);
    }

    int feed(int a, int b, int c, int d, int e) {
        if (tape.length() + 20 > 400) {
            return NONE;
        }
        for (int four : new int[] {a, b, c, d, e}) {
            for (int i = 3; i >= 0; i--) {
                tape.append((char) (four >> 8 * i & 255));
            }
        }
        return tape.length();
    }

    boolean end(int n) {
        if (n < 0 || n > tape.length()) {
            return false;
        }
        tape.setLength(n);
        return true;
    }

    int text(int k) {
        String told = tape.toString();
        tape.setLength(0);
        fault = 0;
        faultAt = NONE;
        if (k < 0 || k > 3) {
            return NONE;
        }
        ModelTexts.Reading reading = new ModelTexts.Reading(told, now.spots.size());
        ModelTexts read = reading.read(k);
        if (read == null) {
            fault = reading.fault;
            faultAt = reading.faultAt;
            return NONE;
        }
        texts = texts.with(k, read);
        if (k == 2) {
            past.clear();
        }
        return texts.lines[k];
    }

    int fault(int what) {
        return what == 0 ? fault : what == 1 ? faultAt : NONE;
    }

    private boolean no(int p) {
        return p < 0 || p >= now.spots.size();
    }

    private int told(Stand s, Spot spot, String word, int wet) {
        Map<String, Integer> known = new HashMap<>();
        int light = spot.room == NONE ? 0 : s.light[spot.room];
        known.put("dry", dryOf(spot.dry));
        known.put("edges", edgesOf(spot.dry));
        known.put("year", spot.year);
        known.put("light", light);
        known.put("room", spot.room == NONE ? 0 : spot.room + 1);
        known.put("hosed", spot.hosed ? 1 : 0);
        known.put("paid", spot.paid);
        known.put("day", s.day);
        known.put("wet", wet);
        int most = word.equals("creeps") ? 1000 : word.equals("worth") ? 9999 : 99;
        for (ModelTexts.Line line : texts.law) {
            if (line.word.equals(word) && (line.when == null || line.when.value(known) != 0)) {
                return Math.max(0, Math.min(most, line.value.value(known)));
            }
        }
        if (word.equals("creeps")) {
            return 10 * wet;
        }
        return word.equals("worth") ? 5 * dryOf(spot.dry) + spot.year : light + dryOf(spot.dry) / 8;
    }

    private static boolean in(int r, int c) {
        return r >= 0 && r < 8 && c >= 0 && c < 8;
    }

    private static boolean isDry(boolean[][] dry, int r, int c) {
        return in(r, c) && dry[r][c];
    }

    private static int dryOf(boolean[][] dry) {
        int n = 0;
        for (boolean[] row : dry) {
            for (boolean cell : row) {
                n += cell ? 1 : 0;
            }
        }
        return n;
    }

    private static int wetAround(boolean[][] dry, int r, int c) {
        int n = 0;
        for (int[] side : SIDES) {
            n += isDry(dry, r + side[0], c + side[1]) ? 0 : 1;
        }
        return n;
    }

    private static int edgesOf(boolean[][] dry) {
        int n = 0;
        for (int r = 0; r < 8; r++) {
            for (int c = 0; c < 8; c++) {
                n += dry[r][c] ? wetAround(dry, r, c) : 0;
            }
        }
        return n;
    }

    int of(int p, int what) {
        if (no(p)) {
            return -2;
        }
        Spot spot = now.spots.get(p);
        if (what >= 10 && what <= 17) {
            int bits = 0;
            for (int c = 0; c < 8; c++) {
                bits += spot.dry[what - 10][c] ? 1 << c : 0;
            }
            return bits;
        }
        int[] answers = {spot.year, spot.room, spot.owned ? 1 : 0, spot.hosed ? 1 : 0, spot.paid,
            told(now, spot, "worth", 0), told(now, spot, "comes", 0)};
        return what < 0 || what > 6 ? -2 : answers[what];
    }

    int creeps(int p, int cell) {
        if (no(p) || cell < 0 || cell > 63 || !now.spots.get(p).dry[cell / 8][cell % 8]) {
            return NONE;
        }
        return told(now, now.spots.get(p), "creeps", wetAround(now.spots.get(p).dry, cell / 8, cell % 8));
    }

    private int passage(int a, int b) {
        int least = Integer.MAX_VALUE;
        for (int[] passage : texts.passages) {
            if (passage[0] == a && passage[1] == b || passage[0] == b && passage[1] == a) {
                least = Math.min(least, passage[2]);
            }
        }
        return least == Integer.MAX_VALUE ? NONE : least;
    }

    int room(int room, int what) {
        if (room < 0 || room > 5 || what != 0 && (what < 10 || what > 15)) {
            return -2;
        }
        return what == 0 ? now.light[room] : passage(room, what - 10);
    }

    int book(int i, int what) {
        return i < 0 || i >= now.book.size() || what < 0 || what > 3 ? NONE : now.book.get(i)[what];
    }

    int goes(int n, int what) {
        if (n < 1 || n > 60 || what < 0 || what > 2) {
            return NONE;
        }
        Stand then = now.copy();
        for (int i = 0; i < n; i++) {
            pass(then, true);
        }
        int cells = 0;
        for (Spot spot : then.spots) {
            cells += spot.owned ? dryOf(spot.dry) : 0;
        }
        return what == 0 ? then.purse : what == 1 ? then.seen : cells;
    }

    /** Numbers the parts of the cells that are alike to the given kind: 0 for cells of the other kind. */
    private static int[][] partsOf(boolean[][] dry, boolean kind) {
        int[][] part = new int[8][8];
        int parts = 0;
        for (int cell = 0; cell < 64; cell++) {
            if (dry[cell / 8][cell % 8] == kind && part[cell / 8][cell % 8] == 0) {
                fill(dry, kind, part, cell / 8, cell % 8, ++parts);
            }
        }
        return part;
    }

    private static void fill(boolean[][] dry, boolean kind, int[][] part, int r, int c, int number) {
        if (!in(r, c) || dry[r][c] != kind || part[r][c] != 0) {
            return;
        }
        part[r][c] = number;
        for (int[] side : SIDES) {
            fill(dry, kind, part, r + side[0], c + side[1], number);
        }
    }

    private static int islands(boolean[][] dry) {
        return Arrays.stream(partsOf(dry, true)).flatMapToInt(Arrays::stream).max().orElse(0);
    }

    private static int holes(boolean[][] dry) {
        int[][] part = partsOf(dry, false);
        Set<Integer> closed = new HashSet<>();
        for (int[] row : part) {
            for (int number : row) {
                closed.add(number);
            }
        }
        closed.remove(0);
        for (int i = 0; i < 8; i++) {
            closed.removeAll(Set.of(part[0][i]));
            closed.removeAll(Set.of(part[7][i]));
            closed.removeAll(Set.of(part[i][0]));
            closed.removeAll(Set.of(part[i][7]));
        }
        return closed.size();
    }

    private static int depth(boolean[][] dry) {
        int times = 0;
        boolean[][] rest = dry;
        while (dryOf(rest) > 0) {
            times++;
            boolean[][] less = new boolean[8][8];
            for (int r = 0; r < 8; r++) {
                for (int c = 0; c < 8; c++) {
                    less[r][c] = rest[r][c] && wetAround(rest, r, c) == 0;
                }
            }
            rest = less;
        }
        return times;
    }

    int shape(int p, int what) {
        if (no(p) || what < 0 || what > 4) {
            return NONE;
        }
        boolean[][] dry = now.spots.get(p).dry;
        return new int[] {dryOf(dry), edgesOf(dry), islands(dry), holes(dry), depth(dry)}[what];
    }

    /** The dry cells as texts row:column, counted from the least row and column. */
    private static Set<String> pushedAway(List<int[]> cells) {
        int leastRow = cells.stream().mapToInt(cell -> cell[0]).min().orElse(0);
        int leastColumn = cells.stream().mapToInt(cell -> cell[1]).min().orElse(0);
        Set<String> names = new HashSet<>();
        for (int[] cell : cells) {
            names.add((cell[0] - leastRow) + ":" + (cell[1] - leastColumn));
        }
        return names;
    }

    private static List<int[]> cellsOf(boolean[][] dry) {
        List<int[]> cells = new ArrayList<>();
        for (int cell = 0; cell < 64; cell++) {
            if (dry[cell / 8][cell % 8]) {
                cells.add(new int[] {cell / 8, cell % 8});
            }
        }
        return cells;
    }

    int turned(int a, int b) {
        if (no(a) || no(b)) {
            return NONE;
        }
        List<int[]> first = cellsOf(now.spots.get(a).dry);
        List<int[]> second = cellsOf(now.spots.get(b).dry);
        if (first.isEmpty() || second.isEmpty()) {
            return NONE;
        }
        for (int turn = 0; turn < 8; turn++) {
            List<int[]> to = new ArrayList<>();
            for (int[] cell : first) {
                int[] at = {cell[0], turn < 4 ? cell[1] : -cell[1]};
                for (int i = 0; i < turn % 4; i++) {
                    at = new int[] {at[1], -at[0]};
                }
                to.add(at);
            }
            if (pushedAway(to).equals(pushedAway(second))) {
                return turn;
            }
        }
        return NONE;
    }

    private static boolean isSquare(boolean[][] dry, int row, int column, int side) {
        for (int r = row; r < row + side; r++) {
            for (int c = column; c < column + side; c++) {
                if (!isDry(dry, r, c)) {
                    return false;
                }
            }
        }
        return true;
    }

    private static boolean isRound(boolean[][] dry, int row, int column, int radius) {
        for (int r = row - radius; r <= row + radius; r++) {
            for (int c = column - radius; c <= column + radius; c++) {
                if (Math.abs(r - row) + Math.abs(c - column) <= radius && !isDry(dry, r, c)) {
                    return false;
                }
            }
        }
        return true;
    }

    int square(int p, int what) {
        if (no(p) || what < 0 || what > 4) {
            return NONE;
        }
        boolean[][] dry = now.spots.get(p).dry;
        int side = 0;
        int corner = NONE;
        int radius = NONE;
        int centre = NONE;
        for (int cell = 0; cell < 64; cell++) {
            for (int n = 1; n <= 8; n++) {
                if (isSquare(dry, cell / 8, cell % 8, n) && n > side) {
                    side = n;
                    corner = cell;
                }
                if (isRound(dry, cell / 8, cell % 8, n - 1) && n - 1 > radius) {
                    radius = n - 1;
                    centre = cell;
                }
            }
        }
        return new int[] {side, corner, rest(dry, side), radius, centre}[what];
    }

    private static int rest(boolean[][] dry, int side) {
        int rest = 0;
        for (int[] cell : cellsOf(dry)) {
            boolean lies = false;
            for (int r = cell[0] - side + 1; r <= cell[0]; r++) {
                for (int c = cell[1] - side + 1; c <= cell[1]; c++) {
                    lies |= isSquare(dry, r, c, side);
                }
            }
            rest += lies ? 0 : 1;
        }
        return rest;
    }

    int fit(int a, int b, int what) {
        if (no(a) || no(b) || what < 0 || what > 1) {
            return NONE;
        }
        boolean[][] first = now.spots.get(a).dry;
        List<int[]> second = cellsOf(now.spots.get(b).dry);
        int most = NONE;
        int best = NONE;
        for (int rows = -7; rows <= 7; rows++) {
            for (int columns = -7; columns <= 7; columns++) {
                int couples = 0;
                boolean free = true;
                for (int[] cell : second) {
                    int r = cell[0] + rows;
                    int c = cell[1] + columns;
                    free &= !isDry(first, r, c);
                    for (int[] side : SIDES) {
                        couples += isDry(first, r + side[0], c + side[1]) ? 1 : 0;
                    }
                }
                if (free && couples > most) {
                    most = couples;
                    best = 15 * (rows + 7) + columns + 7;
                }
            }
        }
        return what == 0 ? most : best;
    }

    int walk(int p, int from, int to, int what) {
        if (no(p) || from < 0 || from > 63 || to < 0 || to > 63 || what < 0 || what > 1) {
            return NONE;
        }
        boolean[][] dry = now.spots.get(p).dry;
        if (!dry[from / 8][from % 8] || !dry[to / 8][to % 8]) {
            return NONE;
        }
        // the cost of having come to a cell in a direction; at the beginning there is none yet
        int[][] cost = new int[64][4];
        for (int[] row : cost) {
            Arrays.fill(row, 100000);
        }
        Arrays.fill(cost[from], 0);
        for (boolean changed = true; changed;) {
            changed = false;
            for (int cell = 0; cell < 64; cell++) {
                for (int last = 0; last < 4; last++) {
                    for (int next = 0; next < 4; next++) {
                        int r = cell / 8 + SIDES[next][0];
                        int c = cell % 8 + SIDES[next][1];
                        int more = what == 0 ? 1 : last == next ? 0 : 1;
                        if (isDry(dry, r, c) && cost[cell][last] + more < cost[8 * r + c][next]) {
                            cost[8 * r + c][next] = cost[cell][last] + more;
                            changed = true;
                        }
                    }
                }
            }
        }
        int least = Arrays.stream(cost[to]).min().orElse(100000);
        return least == 100000 ? NONE : least;
    }

    private static int[] sumsOf(boolean[][] dry) {
        int[] sums = new int[16];
        for (int[] cell : cellsOf(dry)) {
            sums[cell[0]]++;
            sums[8 + cell[1]]++;
        }
        return sums;
    }

    int sums(int p, int what) {
        if (no(p)) {
            return NONE;
        }
        boolean[][] dry = now.spots.get(p).dry;
        if (what >= 0 && what < 16) {
            return sumsOf(dry)[what];
        }
        if (what >= 20 && what < 30 && !no(what - 20)) {
            return Arrays.equals(sumsOf(dry), sumsOf(now.spots.get(what - 20).dry)) ? 1 : 0;
        }
        if (what != 16) {
            return NONE;
        }
        for (int digits = 0; digits < 10000; digits++) {
            int r = digits / 1000;
            int s = digits / 100 % 10;
            int c = digits / 10 % 10;
            int d = digits % 10;
            if (r < s && s < 8 && c < d && d < 8 && dry[r][c] != dry[r][d] && dry[s][c] != dry[s][d] && dry[r][c] != dry[s][c]) {
                return digits;
            }
        }
        return NONE;
    }

    int buys(int w, int what) {
        if (w < 1 || w > 9999 || what < 0 || what > 1) {
            return NONE;
        }
        int most = 0;
        int best = 0;
        for (int set = 0; set < 1 << now.spots.size(); set++) {
            int worth = 0;
            int dry = 0;
            boolean free = true;
            for (int p = 0; p < now.spots.size(); p++) {
                if ((set & 1 << p) != 0) {
                    free &= !now.spots.get(p).owned;
                    worth += of(p, 5);
                    dry += shape(p, 0);
                }
            }
            if (free && worth <= w && dry > most) {
                most = dry;
                best = set;
            }
        }
        return what == 0 ? most : best;
    }

    int tour(int room, int what) {
        if (room < 0 || room > 5 || what < 0 || what > 1) {
            return NONE;
        }
        // the least length of a walk by the rooms it has come through and where it stands
        int[][] least = new int[64][6];
        for (int[] row : least) {
            Arrays.fill(row, 100000);
        }
        least[1 << room][room] = 0;
        for (boolean changed = true; changed;) {
            changed = false;
            for (int set = 0; set < 64; set++) {
                for (int a = 0; a < 6; a++) {
                    for (int b = 0; b < 6; b++) {
                        int to = set | 1 << b;
                        if (passage(a, b) != NONE && least[set][a] + passage(a, b) < least[to][b]) {
                            least[to][b] = least[set][a] + passage(a, b);
                            changed = true;
                        }
                    }
                }
            }
        }
        int best = 0;
        for (int last = 1; last < 6; last++) {
            best = least[63][last] < least[63][best] ? last : best;
        }
        return least[63][best] >= 100000 ? NONE : what == 0 ? least[63][best] : best;
    }

    int vouched(int p) {
        if (no(p)) {
            return NONE;
        }
        Set<Integer> found = new HashSet<>();
        Deque<Integer> open = new ArrayDeque<>(List.of(p));
        while (!open.isEmpty()) {
            int one = open.pop();
            for (int[] vouch : texts.vouches) {
                if (vouch[0] == one && found.add(vouch[1])) {
                    open.push(vouch[1]);
                }
            }
        }
        return found.stream().mapToInt(one -> 1 << one).sum();
    }

    int lie(int p, int left, int right) {
        if (no(p) || left < 0 || left > 63 || right < 0 || right > 63) {
            return NONE;
        }
        boolean[][] dry = now.spots.get(p).dry;
        int[][] part = partsOf(dry, true);
        int a = part[left / 8][left % 8];
        int b = part[right / 8][right % 8];
        int steps = Math.abs(left / 8 - right / 8) + Math.abs(left % 8 - right % 8);
        return a == 0 || b == 0 || left == right || a != b || steps > 4 ? 1 : 0;
    }

    int feet(int p) {
        if (no(p)) {
            return NONE;
        }
        int ways = 0;
        for (int left = 0; left < 64; left++) {
            for (int right = 0; right < 64; right++) {
                boolean stands = right % 8 > left % 8 && Math.abs(left / 8 - right / 8) <= 1;
                ways += stands && lie(p, left, right) == 0 ? 1 : 0;
            }
        }
        return ways;
    }

    int game(int what) {
        if (what < 0 || what > 1) {
            return NONE;
        }
        List<Integer> heaps = new ArrayList<>();
        for (Spot spot : now.spots) {
            heaps.add(spot.owned ? edgesOf(spot.dry) : 0);
        }
        for (int p = 0; p < heaps.size(); p++) {
            for (int taken = 1; taken <= 5 && taken <= heaps.get(p); taken++) {
                List<Integer> rest = new ArrayList<>(heaps);
                rest.set(p, heaps.get(p) - taken);
                if (rest.stream().mapToInt(Model::grundy).reduce(0, (a, b) -> a ^ b) == 0) {
                    return what == 0 ? p : taken;
                }
            }
        }
        return NONE;
    }

    /** The least number that none of the heaps it can become has. */
    private static int grundy(int heap) {
        int[] of = new int[heap + 1];
        for (int h = 1; h <= heap; h++) {
            Set<Integer> reached = new HashSet<>();
            for (int taken = 1; taken <= 5 && taken <= h; taken++) {
                reached.add(of[h - taken]);
            }
            while (reached.contains(of[h])) {
                of[h]++;
            }
        }
        return of[heap];
    }

    boolean undo() {
        if (past.isEmpty()) {
            return false;
        }
        now = past.pop();
        return true;
    }

    boolean image(boolean taken) {
        if (taken) {
            imageStand = now.copy();
            imageTexts = texts;
            return true;
        }
        if (imageStand == null) {
            return false;
        }
        now = imageStand.copy();
        texts = imageTexts;
        past.clear();
        return true;
    }

    int look(int what) {
        int owned = 0;
        for (int p = 0; p < now.spots.size(); p++) {
            owned |= now.spots.get(p).owned ? 1 << p : 0;
        }
        int[] answers = {now.spots.size(), now.purse, now.seen, owned, now.day, now.book.size(), now.state,
            texts.lines[0], texts.lines[1], texts.lines[2], texts.lines[3], past.size()};
        return what < 0 || what > 11 ? NONE : answers[what];
    }
}
