import java.util.Random;

/** Long runs of calls, drawn with fixed seeds, answered alike by DryPlaces and by the Model: all promises. */
public final class ModelTest {
    private static final int RUNS = 400;
    private static final int CALLS = 512;
    private final Random random;
    private final DryPlaces x = new DryPlaces();
    private final Model m = new Model();
    private final StringBuilder said = new StringBuilder();
    private int calls = 0;

    private ModelTest(long seed) {
        random = new Random(seed);
    }

    public static void main(String[] args) {
        for (int run = 0; run < RUNS; run++) {
            ModelTest test = new ModelTest(run);
            String wrong = test.run();
            if (wrong != null) {
                System.out.println("run " + run + ": " + wrong);
                String[] rows = test.said.toString().split("\n");
                for (int i = Math.max(0, rows.length - 40); i < rows.length; i++) {
                    System.out.println("  " + rows[i]);
                }
                System.exit(1);
            }
        }
        System.out.println(RUNS + " runs are answered alike");
    }

    private String run() {
        // few or many places, and an own bias for telling, doing and asking
        int places = random.nextInt(11);
        for (int i = 0; i < places; i++) {
            String wrong = newPlace();
            wrong = wrong == null && n(4) > 0 ? paint() : wrong;
            if (wrong != null) {
                return wrong;
            }
        }
        int telling = 1 + random.nextInt(10);
        while (calls < CALLS - 45) {
            String wrong = random.nextInt(60) < telling ? tell() : random.nextInt(3) == 0 ? act() : ask();
            if (wrong != null) {
                return wrong;
            }
        }
        return null;
    }

    private String same(String call, int got, int want) {
        calls++;
        said.append(call).append(" -> ").append(got).append('\n');
        return got == want ? null : call + " answered " + got + ", the model " + want;
    }

    private String same(String call, boolean got, boolean want) {
        return same(call, got ? 1 : 0, want ? 1 : 0);
    }

    private int n(int bound) {
        return random.nextInt(bound);
    }

    /** Mostly 0 .. bound - 1, at times beyond. */
    private int near(int bound) {
        int dice = n(40);
        return dice == 0 ? -1 - n(3) : dice == 1 ? bound + n(3) : dice == 2 && n(10) == 0 ? random.nextInt() : n(bound);
    }

    private int p() {
        int count = m.look(0);
        return n(15) == 0 || count == 0 ? near(10) : n(count);
    }

    private String newPlace() {
        int year = near(100);
        return same("place(" + year + ")", x.place(year), m.place(year));
    }

    private String row(int place, int row, int bits) {
        return same("row(" + place + ", " + row + ", " + bits + ")", x.row(place, row, bits), m.row(place, row, bits));
    }

    private String tell() {
        int v;
        switch (n(12)) {
            case 0:
                v = random.nextInt();
                return same("state(" + v + ")", x.state(v), m.state(v));
            case 1:
                return newPlace();
            case 2:
                v = n(5) == 0 ? near(100000) : n(3000);
                return same("purse(" + v + ")", x.purse(v), m.purse(v));
            case 3:
            case 4:
            case 5:
                return paint();
            case 6:
                return image();
            case 7:
                return tape();
            default:
                return text();
        }
    }

    private String image() {
        boolean taken = n(3) > 0;
        return same("image(" + taken + ")", x.image(taken), m.image(taken));
    }

    /** All rows of a place: full, empty, blots, a copy turned of another one, or a few dry ones. */
    private String paint() {
        int place = p();
        int kind = n(6);
        int[] rows = new int[8];
        for (int r = 0; r < 8; r++) {
            rows[r] = kind == 0 ? 255 : kind == 1 ? n(256) | n(256) : kind == 2 ? n(256) & n(256) : kind == 3 ? n(256) : 0;
        }
        if (kind == 0) {
            for (int i = n(4); i > 0; i--) {
                rows[n(8)] &= ~(1 << n(8));
            }
        }
        if (kind == 4) {
            int top = n(6);
            for (int r = top; r < Math.min(8, top + 3); r++) {
                rows[r] = n(8) << n(6) & 255;
            }
        }
        if (kind == 5) {
            rows = turnedRows(p());
        }
        if (n(20) == 0) {
            return row(near(10), near(8), near(256));
        }
        for (int r = 0; r < 8; r++) {
            String wrong = row(place, r, rows[r]);
            if (wrong != null) {
                return wrong;
            }
        }
        return null;
    }

    /** The rows of a place in one of the eight ways in which a square can be laid. */
    private int[] turnedRows(int other) {
        int[] rows = new int[8];
        int way = n(8);
        for (int r = 0; r < 8; r++) {
            for (int c = 0; c < 8; c++) {
                int row = (way & 1) == 0 ? r : 7 - r;
                int column = (way & 2) == 0 ? c : 7 - c;
                int bits = Math.max(0, m.of(other, 10 + ((way & 4) == 0 ? row : column)));
                rows[r] |= (bits >> ((way & 4) == 0 ? column : row) & 1) << c;
            }
        }
        return rows;
    }

    private String feed(String text) {
        for (int i = 0; i < text.length(); i += 20) {
            int[] five = new int[5];
            for (int j = 0; j < 20; j++) {
                five[j / 4] = five[j / 4] << 8 | (i + j < text.length() ? text.charAt(i + j) & 255 : n(256));
            }
            String wrong = same("feed", x.feed(five[0], five[1], five[2], five[3], five[4]),
                m.feed(five[0], five[1], five[2], five[3], five[4]));
            if (wrong != null) {
                return wrong;
            }
        }
        return null;
    }

    private String tape() {
        if (n(3) == 0) {
            int v = near(410);
            return same("end(" + v + ")", x.end(v), m.end(v));
        }
        return feed(" ".repeat(n(60)));
    }

    private String text() {
        int k = n(30) == 0 ? near(4) : n(4);
        String text = new TextMaker(random, m.look(0), m.look(4)).make(k);
        if (n(3) == 0) {
            text = spoil(text);
        }
        text = text.substring(0, Math.min(400, text.length()));
        String wrong = same("end(0)", x.end(0), m.end(0));
        wrong = wrong == null ? feed(text) : wrong;
        wrong = wrong == null ? same("end(" + text.length() + ")", x.end(text.length()), m.end(text.length())) : wrong;
        wrong = wrong == null ? same("text(" + k + ") '" + text + "'", x.text(k), m.text(k)) : wrong;
        wrong = wrong == null ? same("fault(0)", x.fault(0), m.fault(0)) : wrong;
        return wrong == null ? same("fault(1)", x.fault(1), m.fault(1)) : wrong;
    }

    private String spoil(String text) {
        StringBuilder to = new StringBuilder(text);
        for (int i = 1 + n(2); i > 0 && to.length() > 0; i--) {
            int at = n(to.length());
            switch (n(4)) {
                case 0:
                    to.deleteCharAt(at);
                    break;
                case 1:
                    to.insert(at, "; + - * / ( ) < = > 0 12 12345 not ( or and dry x \n \t".split(" ")[n(21)]);
                    break;
                case 2:
                    to.setLength(at);
                    break;
                default:
                    to.setCharAt(at, (char) n(256));
                    break;
            }
        }
        return to.toString();
    }

    private String act() {
        if (n(4) == 0) {
            int days = n(4) == 0 ? near(61) : 1 + n(3);
            return same("days(" + days + ")", x.days(days), m.days(days));
        }
        if (n(8) == 0) {
            return same("undo()", x.undo(), m.undo());
        }
        int what = n(2) == 0 ? near(6) : 2 * n(2);
        what = what == 4 && n(3) > 0 ? 2 : what;
        int who = what == 3 ? near(6) : p();
        int v = what == 2 ? near(6) : what == 3 ? near(10) : what == 4 ? near(8) : near(64);
        return same("act(" + what + ", " + who + ", " + v + ")", x.act(what, who, v), m.act(what, who, v));
    }

    private String ask() {
        int a = p();
        int b = p();
        int v;
        int w;
        int what;
        switch (n(19)) {
            case 0:
                what = near(18);
                return same("of(" + a + ", " + what + ")", x.of(a, what), m.of(a, what));
            case 1:
                v = near(64);
                return same("creeps(" + a + ", " + v + ")", x.creeps(a, v), m.creeps(a, v));
            case 2:
                v = near(6);
                what = n(3) == 0 ? near(18) : 10 + near(6);
                return same("room(" + v + ", " + what + ")", x.room(v, what), m.room(v, what));
            case 3:
                v = near(m.look(5) + 1);
                what = near(4);
                return same("book(" + v + ", " + what + ")", x.book(v, what), m.book(v, what));
            case 4:
                v = n(2) == 0 ? near(61) : 1 + n(5);
                what = near(3);
                return same("goes(" + v + ", " + what + ")", x.goes(v, what), m.goes(v, what));
            case 5:
                what = near(5);
                return same("shape(" + a + ", " + what + ")", x.shape(a, what), m.shape(a, what));
            case 6:
                return same("turned(" + a + ", " + b + ")", x.turned(a, b), m.turned(a, b));
            case 7:
                what = near(5);
                return same("square(" + a + ", " + what + ")", x.square(a, what), m.square(a, what));
            case 8:
                what = near(2);
                return same("fit(" + a + ", " + b + ", " + what + ")", x.fit(a, b, what), m.fit(a, b, what));
            case 9:
                v = near(64);
                w = near(64);
                what = near(2);
                return same("walk(" + a + ", " + v + ", " + w + ", " + what + ")", x.walk(a, v, w, what), m.walk(a, v, w, what));
            case 10:
                what = near(31);
                return same("sums(" + a + ", " + what + ")", x.sums(a, what), m.sums(a, what));
            case 11:
                w = n(2) == 0 ? near(10000) : 1 + n(700);
                what = near(2);
                return same("buys(" + w + ", " + what + ")", x.buys(w, what), m.buys(w, what));
            case 12:
                v = near(6);
                what = near(2);
                return same("tour(" + v + ", " + what + ")", x.tour(v, what), m.tour(v, what));
            case 13:
                return same("vouched(" + a + ")", x.vouched(a), m.vouched(a));
            case 14:
                v = near(64);
                w = n(2) == 0 ? near(64) : v + n(5) * 8 - 16 + n(5) - 2;
                return same("lie(" + a + ", " + v + ", " + w + ")", x.lie(a, v, w), m.lie(a, v, w));
            case 15:
                return same("feet(" + a + ")", x.feet(a), m.feet(a));
            case 16:
                what = near(2);
                return same("game(" + what + ")", x.game(what), m.game(what));
            case 17:
                what = near(2);
                return same("fault(" + what + ")", x.fault(what), m.fault(what));
            default:
                what = near(12);
                return same("look(" + what + ")", x.look(what), m.look(what));
        }
    }
}
