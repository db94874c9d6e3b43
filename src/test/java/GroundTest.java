/** Promises 17 to 22, 26 and 27: shape, turned, square, fit, walk, sums, lie, feet. */
public final class GroundTest {
    private static final int NONE = DryPlaces.NONE;

    public static void main(String[] args) {
        shapes();
        turns();
        squares();
        fits();
        walks();
        sums();
        lies();
        feet();
        Due.close();
    }

    private static DryPlaces with(String... rows) {
        DryPlaces x = new DryPlaces();
        Due.place(x, 0, rows);
        return x;
    }

    private static DryPlaces full() {
        return with("########", "########", "########", "########", "########", "########", "########", "########");
    }

    private static void shape(DryPlaces x, int dry, int edges, int islands, int holes, int depth) {
        int[] due = {dry, edges, islands, holes, depth};
        for (int what = 0; what < 5; what++) {
            Due.is("shape " + what, x.shape(0, what), due[what]);
        }
    }

    private static void shapes() {
        shape(with(), 0, 0, 0, 0, 0);
        shape(full(), 64, 32, 1, 0, 4);
        shape(with("#"), 1, 4, 1, 0, 1);
        shape(with("#.#", ".#.", "#.#"), 5, 20, 5, 0, 1);
        shape(with(".....", ".###.", ".#.#.", ".###."), 8, 16, 1, 1, 1);
        // the hole at the corner comes outside only aslant, the two inside hang together only aslant
        shape(with(".#..####", "##..#.##", "....##.#", "....####"), 3 + 14, 8 + 24, 2, 2, 1);
        shape(with("#######", "#.....#", "#.###.#", "#.#.#.#", "#.###.#", "#.....#", "#######"), 32, 64, 2, 2, 1);
        // a bay that comes outside at the border is no hole
        shape(with("#.###", "#.#.#", "#####"), 12, 24, 1, 1, 1);
        shape(with("#####", "#####", "#####", "#####", "#####"), 25, 20, 1, 0, 3);
        // so is one at the lower border, at the left, at the right
        shape(with("", "", "", "", "", "", ".###....", ".#.#...."), 5, 12, 1, 0, 1);
        shape(with("", "##......", ".#....##", "##....#.", "......##"), 10, 24, 2, 0, 1);
        DryPlaces x = with("#");
        Due.is("shape 5", x.shape(0, 5), NONE);
        Due.is("shape -1", x.shape(0, -1), NONE);
        Due.is("no place", x.shape(1, 0), NONE);
        Due.is("no place", x.shape(-1, 0), NONE);
    }

    private static void turns() {
        String[][] turns = {
            {"##..", ".#..", ".###"}, {"..#", "###", "#..", "#.."}, {"###.", "..#.", "..##"}, {"..#", "..#", "###", "#.."},
            {"..##", "..#.", "###."}, {"#..", "#..", "###", "..#"}, {".###", ".#..", "##.."}, {"#..", "###", "..#", "..#"}};
        // of the last ones each is laid as the document tells: changed left to right, then turned
        for (int turn = 0; turn < 8; turn++) {
            DryPlaces x = with(turns[0]);
            Due.place(x, 0, shifted(turns[turn], turn));
            Due.is("turned by " + turn, x.turned(0, 1), turn);
        }
        DryPlaces x = with("##", "##");
        Due.place(x, 0, "", "", "", "", "", "", "......##", "......##");
        Due.place(x, 0, "###");
        Due.place(x, 0, "#", "#", "#");
        Due.place(x, 0);
        Due.place(x, 0, "#..#");
        Due.place(x, 0, "########", "#");
        Due.place(x, 0, "##", "#", "#", "#", "#", "#", "#", "#");
        Due.is("pushed", x.turned(0, 1), 0);
        Due.is("pushed", x.turned(1, 0), 0);
        Due.is("a row", x.turned(2, 3), 1);
        Due.is("itself", x.turned(2, 2), 0);
        Due.is("not alike", x.turned(0, 2), NONE);
        Due.is("as many, not alike", x.turned(0, 5), NONE);
        Due.is("nothing dry", x.turned(4, 0), NONE);
        Due.is("nothing dry", x.turned(0, 4), NONE);
        Due.is("nothing dry in both", x.turned(4, 4), NONE);
        Due.is("no place", x.turned(0, 8), NONE);
        Due.is("no place", x.turned(-1, 0), NONE);
        Due.is("as large as can be", x.turned(6, 7), 7);
    }

    private static String[] shifted(String[] rows, int by) {
        String[] to = new String[rows.length + by % 3];
        for (int r = 0; r < to.length; r++) {
            to[r] = r < by % 3 ? "" : ".".repeat(by % 4) + rows[r - by % 3];
        }
        return to;
    }

    private static void square(DryPlaces x, int... due) {
        for (int what = 0; what < 5; what++) {
            Due.is("square " + what, x.square(0, what), due[what]);
        }
    }

    private static void squares() {
        square(with(), 0, NONE, 0, NONE, NONE);
        square(full(), 8, 0, 0, 3, 27);
        square(with("", "..#"), 1, 10, 0, 0, 10);
        square(with("###.", "#.#.", "###.", "..##", "..##"), 2, 26, 8, 0, 0);
        square(with(".##.", "####", "####", ".##."), 2, 1, 0, 1, 9);
        square(with("##......", "##......", "........", "........", ".....###", ".....###", ".....###"), 3, 37, 4, 1, 46);
        square(with("...#....", "..###...", ".#####..", "..###...", "...#...."), 3, 10, 4, 2, 19);
        square(with("########", "########"), 2, 0, 0, 0, 0);
        DryPlaces x = full();
        Due.is("square 5", x.square(0, 5), NONE);
        Due.is("square -1", x.square(0, -1), NONE);
        Due.is("no place", x.square(1, 0), NONE);
        Due.is("no place", x.square(-1, 0), NONE);
    }

    private static void fits() {
        DryPlaces x = with("###", "#.#", "###");
        Due.place(x, 0, "", "", "...#");
        Due.place(x, 0, "########", "########", "########", "########", "########", "########", "########", "########");
        Due.place(x, 0);
        Due.place(x, 0, "##");
        Due.place(x, 0, "########");
        Due.is("into the hole", x.fit(0, 1, 0), 4);
        Due.is("by", x.fit(0, 1, 1), 15 * (-1 + 7) + (-2 + 7));
        Due.is("around it", x.fit(1, 0, 0), 4);
        Due.is("by", x.fit(1, 0, 1), 15 * (1 + 7) + (2 + 7));
        Due.is("two full ones", x.fit(2, 2, 0), NONE);
        Due.is("two full ones", x.fit(2, 2, 1), NONE);
        Due.is("nothing dry", x.fit(2, 3, 0), 0);
        Due.is("nothing dry", x.fit(2, 3, 1), 0);
        Due.is("nothing dry in both", x.fit(3, 3, 1), 0);
        Due.is("two and two", x.fit(4, 4, 0), 2);
        Due.is("by, the least", x.fit(4, 4, 1), 15 * (-1 + 7) + 7);
        Due.place(x, 0, "#", "#", "#");
        Due.is("two columns", x.fit(6, 6, 0), 3);
        Due.is("to the left", x.fit(6, 6, 1), 15 * 7 + 6);
        Due.place(x, 0, ".#", "##", ".#");
        Due.is("to the right", x.fit(6, 7, 0), 3);
        Due.is("by", x.fit(6, 7, 1), 15 * 7 + 5);
        Due.is("the other one to the right", x.fit(7, 6, 1), 15 * 7 + 9);
        Due.is("two long rows", x.fit(5, 5, 0), 8);
        Due.is("above", x.fit(5, 5, 1), 15 * 6 + 7);
        Due.is("a row above a full one", x.fit(2, 5, 0), 8);
        Due.is("by", x.fit(2, 5, 1), 15 * 6 + 7);
        Due.is("a full one below a row", x.fit(5, 2, 0), 8);
        Due.is("by", x.fit(5, 2, 1), 15 * 8 + 7);
        Due.is("fit 2", x.fit(0, 1, 2), NONE);
        Due.is("fit -1", x.fit(0, 1, -1), NONE);
        Due.is("no place", x.fit(0, 8, 0), NONE);
        Due.is("no place", x.fit(-1, 0, 0), NONE);
    }

    private static void walks() {
        DryPlaces x = with("########", "#......#", "#.####.#", "#.#..#.#", "#.##.#.#", "#....#.#", "######.#", "......##");
        Due.is("the long way", x.walk(0, 63, 35, 0), 35);
        Due.is("around a corner", x.walk(0, 62, 55, 0), 2);
        Due.is("there", x.walk(0, 63, 0, 0), 14);
        Due.is("its turnings", x.walk(0, 63, 0, 1), 1);
        Due.is("a straight walk", x.walk(0, 0, 7, 1), 0);
        Due.is("one step", x.walk(0, 0, 1, 0), 1);
        Due.is("no step", x.walk(0, 9, 9, 0), NONE);
        Due.is("nowhere", x.walk(0, 8, 8, 0), 0);
        Due.is("nowhere", x.walk(0, 8, 8, 1), 0);
        Due.is("to a wet one", x.walk(0, 8, 9, 0), NONE);
        Due.is("from a wet one", x.walk(0, 9, 8, 1), NONE);
        DryPlaces y = with("##......", ".##.....", "..##....", "...##...", "........", "###.....", "#.#.....", "#.#....#");
        Due.is("stairs", y.walk(0, 0, 28, 0), 7);
        Due.is("stairs' turnings", y.walk(0, 0, 28, 1), 6);
        Due.is("around", y.walk(0, 56, 58, 0), 6);
        Due.is("around's turnings", y.walk(0, 56, 58, 1), 2);
        Due.is("no way", y.walk(0, 0, 63, 0), NONE);
        Due.is("no way", y.walk(0, 0, 63, 1), NONE);
        DryPlaces z = with("#####", "#.#.#", "###.#", "..#.#", "..###");
        Due.is("fewest steps", z.walk(0, 0, 36, 0), 8);
        Due.is("fewest turnings of any walk", z.walk(0, 0, 36, 1), 1);
        Due.is("longer, but straighter", z.walk(0, 16, 34, 1), 1);
        int[][] wrong = {{0, -1, 0, 0}, {0, 0, 64, 0}, {0, 64, 0, 1}, {0, 0, -1, 1}, {1, 0, 0, 0}, {-1, 0, 0, 0}, {0, 0, 0, 2}, {0, 0, 0, -1}};
        for (int[] w : wrong) {
            Due.is("walk(" + w[0] + ", " + w[1] + ", " + w[2] + ", " + w[3] + ")", z.walk(w[0], w[1], w[2], w[3]), NONE);
        }
    }

    private static void sums() {
        DryPlaces x = with("#.#.#.#.", "", "########", "#", "", "", "", ".......#");
        int[] due = {4, 0, 8, 1, 0, 0, 0, 1, 3, 1, 2, 1, 2, 1, 2, 2};
        for (int what = 0; what < 16; what++) {
            Due.is("sum " + what, x.sums(0, what), due[what]);
        }
        Due.is("switch", x.sums(0, 16), 707);
        Due.place(x, 0, "", "", "..#....#", "", "", ".#..#...");
        Due.is("switch", x.sums(1, 16), 2512);
        Due.place(x, 0, "##", "#");
        Due.is("none", x.sums(2, 16), NONE);
        Due.place(x, 0, "..#", ".#");
        Due.place(x, 0, ".#", "..#");
        Due.place(x, 0, ".#", ".#");
        Due.is("the other way round", x.sums(3, 16), 112);
        Due.is("like", x.sums(3, 24), 1);
        Due.is("like", x.sums(4, 23), 1);
        Due.is("not like", x.sums(3, 25), 0);
        Due.is("like the first one", x.sums(3, 20), 0);
        Due.place(x, 0, "..#", "", ".#");
        Due.is("like by columns alone", x.sums(3, 26), 0);
        for (int what : new int[] {-1, 17, 19, 27, 30, Integer.MAX_VALUE, Integer.MIN_VALUE}) {
            Due.is("sums(0, " + what + ")", x.sums(0, what), NONE);
        }
        Due.is("no place", x.sums(7, 0), NONE);
        Due.is("no place", x.sums(-1, 20), NONE);
    }

    private static void lies() {
        DryPlaces x = with("######..", "........", "#####...", "#...#...", "#.#.#...");
        Due.is("beside", x.lie(0, 0, 1), 0);
        Due.is("four apart", x.lie(0, 0, 4), 0);
        Due.is("five apart", x.lie(0, 0, 5), 1);
        Due.is("alike", x.lie(0, 0, 0), 1);
        Due.is("left on a wet one", x.lie(0, 8, 0), 1);
        Due.is("right on a wet one", x.lie(0, 0, 8), 1);
        Due.is("two islands", x.lie(0, 0, 16), 1);
        Due.is("four steps over wet ones", x.lie(0, 32, 36), 0);
        Due.is("back", x.lie(0, 36, 32), 0);
        Due.is("further to the right", x.lie(0, 3, 5), 0);
        Due.is("down", x.lie(0, 20, 36), 0);
        Due.is("down and to the left, four apart", x.lie(0, 28, 17), 0);
        Due.is("down and to the left, five apart", x.lie(0, 17, 36), 1);
        Due.is("an island of its own", x.lie(0, 32, 34), 1);
        Due.is("cell -1", x.lie(0, -1, 0), NONE);
        Due.is("cell 64", x.lie(0, 0, 64), NONE);
        Due.is("no place", x.lie(1, 0, 1), NONE);
        Due.is("no place", x.lie(-1, 0, 1), NONE);
    }

    private static void feet() {
        Due.is("nothing dry", with().feet(0), 0);
        Due.is("one", with("#").feet(0), 0);
        Due.is("a row of eight", with("########").feet(0), 7 + 6 + 5 + 4);
        Due.is("a column", with("#", "#", "#").feet(0), 0);
        Due.is("two by two", with("##", "##").feet(0), 4);
        Due.is("two rows of five", with("#####", "#####").feet(0), 2 * 10 + 2 * 9);
        Due.is("rows two apart", with("###", "#..", "###").feet(0), 3 + 3 + 2 + 2);
        Due.is("aslant", with("#.", ".#").feet(0), 0);
        Due.is("full", full().feet(0), 8 * 22 + 14 * 18);
        Due.is("no place", full().feet(1), NONE);
        Due.is("no place", full().feet(-1), NONE);
    }
}
