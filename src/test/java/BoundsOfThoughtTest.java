/** What Terms 4 and promises 17 to 28 say of bounds: at each bound and one beyond it on either side. */
public final class BoundsOfThoughtTest {
    private static final int NONE = DryPlaces.NONE;
    private static final int LEAST = Integer.MIN_VALUE;
    private static final int MOST = Integer.MAX_VALUE;
    private static final String F = "########";

    public static void main(String[] args) {
        noneSuch();
        anotherWhat();
        shapesOfNothingAndAll();
        islandsAndHoles();
        depths();
        turns();
        squareSides();
        rests();
        rounds();
        pushes();
        pushesBeyond();
        fitsByNone();
        walkCells();
        walks();
        straightWalks();
        sumsOfRowsAndColumns();
        likes();
        switches();
        purses();
        setsBought();
        tours();
        stars();
        vouches();
        heelCells();
        heelsApart();
        feetApart();
        games();
        Due.close();
    }

    private static DryPlaces with(String... rows) {
        DryPlaces x = new DryPlaces();
        Due.place(x, 0, rows);
        return x;
    }

    private static DryPlaces full() {
        return with(F, F, F, F, F, F, F, F);
    }

    private static void noneSuch() {
        Due.says("17 to 22, 25 to 27: NONE if there is none such");
        for (int count : new int[] {0, 1, 2, 9, 10}) {
            DryPlaces x = new DryPlaces();
            for (int p = 0; p < count; p++) {
                Due.place(x, 0, F, F, "#.#.#.#.");
            }
            for (int p : new int[] {-1, count, LEAST, MOST}) {
                for (int what = 0; what < 5; what++) {
                    Due.is("shape", x.shape(p, what), NONE);
                    Due.is("square", x.square(p, what), NONE);
                }
                for (int what : new int[] {0, 15, 16, 20}) {
                    Due.is("sums", x.sums(p, what), NONE);
                }
                for (int what = 0; what < 2; what++) {
                    Due.is("walk", x.walk(p, 0, 1, what), NONE);
                    Due.is("fit", x.fit(p, 0, what), NONE);
                    Due.is("fit", x.fit(0, p, what), NONE);
                }
                Due.is("turned", x.turned(p, 0), NONE);
                Due.is("turned", x.turned(0, p), NONE);
                Due.is("vouched", x.vouched(p), NONE);
                Due.is("lie", x.lie(p, 0, 1), NONE);
                Due.is("feet", x.feet(p), NONE);
            }
            if (count > 0) {
                lastOf(x, count - 1);
            }
        }
    }

    private static void lastOf(DryPlaces x, int p) {
        Due.is("shape of the last", x.shape(p, 0), 20);
        Due.is("square of the last", x.square(p, 0), 2);
        Due.is("sums of the last", x.sums(p, 2), 4);
        Due.is("like the last", x.sums(0, 20 + p), 1);
        Due.is("beyond the last", x.sums(0, 20 + p + 1), NONE);
        Due.is("walk in the last", x.walk(p, 0, 1, 0), 1);
        Due.is("fit of the last", x.fit(0, p, 0) > 0, true);
        Due.is("turned to the last", x.turned(0, p), 0);
        Due.is("turned from the last", x.turned(p, 0), 0);
        Due.is("vouched of the last", x.vouched(p), 0);
        Due.is("lie in the last", x.lie(p, 0, 1), 0);
        Due.is("feet in the last", x.feet(p) > 0, true);
    }

    private static void anotherWhat() {
        Due.says("17, 19 to 24, 28: NONE .. another what");
        DryPlaces x = full();
        Due.place(x, 0, "#.#");
        Due.place(x, 0, "##");
        Due.tell(x, 1, "room 0 room 1 long 1;room 1 room 2 long 1;room 2 room 3 long 1;room 3 room 4 long 1;room 4 room 5 long 1;");
        Due.tell(x, 0, "worth 0;");
        x.act(0, 1, 0);
        Due.is("the game can be won", x.game(0) + 10 * x.game(1), 1 + 10 * 2);
        for (int what : new int[] {-1, 2, 3, LEAST, MOST}) {
            Due.is("fit " + what, x.fit(0, 1, what), NONE);
            Due.is("walk " + what, x.walk(0, 0, 1, what), NONE);
            Due.is("buys " + what, x.buys(1, what), NONE);
            Due.is("tour " + what, x.tour(0, what), NONE);
            Due.is("game " + what, x.game(what), NONE);
        }
        for (int what : new int[] {-1, 5, 6, LEAST, MOST}) {
            Due.is("shape " + what, x.shape(0, what), NONE);
            Due.is("square " + what, x.square(0, what), NONE);
        }
        for (int what : new int[] {-1, 17, 18, 19, 23, 30, LEAST, LEAST + 19, LEAST + 20, MOST}) {
            Due.is("sums " + what, x.sums(0, what), NONE);
        }
        for (int what = 0; what < 5; what++) {
            Due.is("shape " + what, x.shape(0, what) != NONE, true);
            Due.is("square " + what, x.square(0, what) != NONE, true);
        }
        for (int what = 0; what < 2; what++) {
            Due.is("fit " + what, x.fit(0, 1, what) != NONE, true);
            Due.is("walk " + what, x.walk(0, 0, 1, what) != NONE, true);
            Due.is("buys " + what, x.buys(1, what) != NONE, true);
            Due.is("tour " + what, x.tour(0, what) != NONE, true);
        }
        for (int what : new int[] {0, 15, 20, 21, 22}) {
            Due.is("sums " + what, x.sums(0, what) != NONE, true);
        }
    }

    private static void shape(DryPlaces x, int... due) {
        for (int what = 0; what < due.length; what++) {
            Due.is("shape " + what, x.shape(0, what), due[what]);
        }
    }

    private static void shapesOfNothingAndAll() {
        Due.says("Terms 4: SHAPE of a PLACE (empty, full)");
        shape(with(), 0, 0, 0, 0, 0);
        shape(full(), 64, 32, 1, 0, 4);
        shape(with("#"), 1, 4, 1, 0, 1);
        shape(with("", "", "", "", "", "", "", ".......#"), 1, 4, 1, 0, 1);
        shape(with("#.#.#.#.", ".#.#.#.#", "#.#.#.#.", ".#.#.#.#", "#.#.#.#.", ".#.#.#.#", "#.#.#.#.", ".#.#.#.#"), 32, 128, 32, 18, 1);
        // the end of a row is not beside the next row's beginning
        shape(with(".......#", "#"), 2, 8, 2, 0, 1);
    }

    private static void islandsAndHoles() {
        Due.says("Terms 4: HOLES (parts of wet CELLS that do not come outside by BESIDE)");
        shape(with("###", "#.#", "###"), 8, 16, 1, 1, 1);
        shape(with("#.#", "#.#", "###"), 7, 16, 1, 0, 1);
        shape(with("###", "#..", "###"), 7, 16, 1, 0, 1);
        shape(with(F, "#......#", "#......#", "#......#", "#......#", "#......#", "#......#", F), 28, 56, 1, 1, 1);
        shape(with(F, "#......#", "#......#", "#......#", "#......#", "#......#", "#......#", "######.#"), 27, 56, 1, 0, 1);
        shape(with(F, "#......#", "#......#", "#.......", "#......#", "#......#", "#......#", F), 27, 56, 1, 0, 1);
        // two that touch aslant are two, and one that comes to a corner only aslant is one
        shape(with("####", "#.##", "##.#", "####"), 14, 24, 1, 2, 1);
        shape(with(".##", "#.#", "###"), 7, 16, 1, 1, 1);
        shape(with("##.", "###", ".##"), 7, 12, 1, 0, 2);
    }

    private static void depths() {
        Due.says("Terms 4: DEPTH: .. with something dry left, and 1 (nothing dry: 0)");
        String[] sides = {"", "#", "##", "###", "####", "#####", "######", "#######", F};
        int[] due = {0, 1, 1, 2, 2, 3, 3, 4, 4};
        for (int side = 0; side <= 8; side++) {
            String[] rows = new String[side];
            java.util.Arrays.fill(rows, sides[side]);
            Due.is("side " + side, with(rows).shape(0, 4), due[side]);
        }
        Due.is("a cross", with(".#.", "###", ".#.").shape(0, 4), 2);
        Due.is("a cross at the side", with("###", ".#.").shape(0, 4), 1);
    }

    private static void turns() {
        Due.says("18: NONE by none, nothing dry in one of them, or there is none such.");
        DryPlaces x = with("##.", ".##");
        Due.place(x, 0, ".##", "##.");
        Due.place(x, 0);
        Due.place(x, 0, "##", "##");
        Due.place(x, 0, "", "", "", "", "", "", "......##", ".....##.");
        Due.is("itself", x.turned(0, 0), 0);
        Due.is("changed left to right", x.turned(0, 1), 4);
        Due.is("as many, by none", x.turned(0, 3), NONE);
        Due.is("nothing dry in the first", x.turned(2, 0), NONE);
        Due.is("nothing dry in the second", x.turned(0, 2), NONE);
        Due.is("nothing dry in both", x.turned(2, 2), NONE);
        Due.is("pushed as far as can be", x.turned(1, 4), 0);
        Due.is("pushed back", x.turned(4, 1), 0);
        Due.is("changed and pushed", x.turned(0, 4), 4);
        Due.place(x, 0, "#");
        Due.place(x, 0, "", "", "", "", "", "", "", ".......#");
        Due.is("the first cell alone and the last", x.turned(5, 6), 0);
        Due.is("the last cell alone and the first", x.turned(6, 5), 0);
        Due.is("one and nothing", x.turned(5, 2), NONE);
        // all eight ways of one that has no likeness in itself, laid in the far corner and at the border
        int[][] cells = {{0, 0}, {0, 1}, {0, 2}, {1, 0}, {2, 0}, {3, 0}, {3, 1}};
        for (int turn = 0; turn < 8; turn++) {
            DryPlaces y = with("###", "#", "#", "##");
            y.place(0);
            for (int[] cell : cells) {
                int r = cell[0];
                int c = turn < 4 ? cell[1] : 7 - cell[1];
                for (int i = 0; i < turn % 4; i++) {
                    int was = r;
                    r = c;
                    c = 7 - was;
                }
                y.row(1, r, y.of(1, 10 + r) | 1 << c);
            }
            Due.is("turn " + turn, y.turned(0, 1), turn);
            Due.is("back", y.turned(1, 0), turn == 1 ? 3 : turn == 3 ? 1 : turn);
        }
    }

    private static void square(DryPlaces x, int... due) {
        for (int what = 0; what < due.length; what++) {
            Due.is("square " + what, x.square(0, what), due[what]);
        }
    }

    private static void squareSides() {
        Due.says("Terms 4: SQUARE of a PLACE: the greatest square all dry: its side; its first CELL (least number of its upper left one)");
        square(with(), 0, NONE, 0, NONE, NONE);
        for (int side = 1; side <= 8; side++) {
            // in the far corner, and once with a wet cell in its own far corner
            DryPlaces x = new DryPlaces();
            x.place(0);
            for (int r = 8 - side; r < 8; r++) {
                x.row(0, r, 255 & ~((1 << 8 - side) - 1));
            }
            Due.is("side " + side, x.square(0, 0), side);
            Due.is("its first cell", x.square(0, 1), 9 * (8 - side));
            Due.is("rest", x.square(0, 2), 0);
            x.row(0, 7, x.of(0, 17) & 127);
            Due.is("less than side " + side, x.square(0, 0), side - 1);
        }
        square(with("##.##", "##.##", "", "##.##", "##.##"), 2, 0, 0);
        square(with("...##", "...##", "", "##...", "##..."), 2, 3, 0);
        // no square goes over the end of a row
        square(with("#......#", "#......#"), 1, 0, 0);
    }

    private static void rests() {
        Due.says("Terms 4: REST: how many dry CELLS lie in no square of that side that is all dry");
        square(with("###", "###"), 2, 0, 0);
        square(with("###", "##."), 2, 0, 1);
        square(with("##.", "##.", "..#"), 2, 0, 1);
        square(with("#.#.#.#.", "", "", "", "", "", "", ".......#"), 1, 0, 0);
        square(with(F, F, F, F, F, F, F, "#######."), 7, 0, 0);
        square(with(F, F, F, F, F, F, "#######.", "######.#"), 7, 0, 62 - 49);
    }

    private static void rounds() {
        Due.says("Terms 4: ROUND: the greatest r so that all CELLS r steps or fewer from one CELL are dry and none outside; 19: nothing is dry (1, 3, 4)");
        DryPlaces x = with();
        for (int what : new int[] {1, 3, 4}) {
            Due.is("nothing dry: " + what, x.square(0, what), NONE);
        }
        x = with("#");
        Due.is("r", x.square(0, 3), 0);
        Due.is("at", x.square(0, 4), 0);
        x = with("", "", "", "", "", "", "", ".......#");
        Due.is("r", x.square(0, 3), 0);
        Due.is("at", x.square(0, 4), 63);
        x = with("###", "###");
        Due.is("one is outside", x.square(0, 3), 0);
        x = with(".#.", "###", ".#.");
        Due.is("r", x.square(0, 3), 1);
        Due.is("at", x.square(0, 4), 9);
        x = with(".#.", "##.", ".#.");
        Due.is("one is wet", x.square(0, 3), 0);
        Due.is("at", x.square(0, 4), 1);
        x = full();
        Due.is("r", x.square(0, 3), 3);
        Due.is("the least", x.square(0, 4), 27);
        x.row(0, 0, 0);
        Due.is("seven rows, the middle one", x.square(0, 3), 3);
        Due.is("at", x.square(0, 4), 35);
        x.row(0, 7, 127 - 8);
        Due.is("its lowest cell is wet", x.square(0, 3), 3);
        Due.is("at", x.square(0, 4), 36);
        x.row(0, 7, 0);
        Due.is("six rows", x.square(0, 3), 2);
        Due.is("at", x.square(0, 4), 26);
    }

    private static void fit(DryPlaces x, int a, int b, int many, int by) {
        Due.is("fit(" + a + ", " + b + ", 0)", x.fit(a, b, 0), many);
        Due.is("fit(" + a + ", " + b + ", 1)", x.fit(a, b, 1), by);
    }

    private static void pushes() {
        Due.says("Terms 4: FIT: pushed by rows and columns (-7 .. 7 each) .. 15 times rows and 7, and columns and 7; of several the least");
        String[] none = {"", "", "", "", "", ""};
        // a corner around one cell, which lies in each corner of the ground
        DryPlaces x = with("#");
        Due.place(x, 0, none[0], none[1], none[2], none[3], none[4], none[5], "......##", "......#.");
        fit(x, 0, 1, 2, 0);
        fit(x, 1, 0, 2, 224);
        x = with(".......#");
        Due.place(x, 0, none[0], none[1], none[2], none[3], none[4], none[5], "##......", ".#......");
        fit(x, 0, 1, 2, 14);
        fit(x, 1, 0, 2, 210);
        x = with("#");
        Due.place(x, 0, "#");
        fit(x, 0, 1, 1, 15 * 6 + 7);
        x = with("#");
        Due.place(x, 0, "", "", "", "", "", "", "", "......#");
        fit(x, 0, 1, 1, 0);
        // columns at each border: what is pushed over it is gone, and nothing comes in behind it
        x = with("#", "#", "#");
        Due.place(x, 0, "", "", "", "", "", ".......#", ".......#", ".......#");
        Due.place(x, 0, "", "", "", "", "", "#", "#", "#");
        Due.place(x, 0, ".......#", ".......#", ".......#");
        for (int p = 0; p < 4; p++) {
            fit(x, p, p, 3, 15 * 7 + 6);
        }
        fit(x, 0, 1, 3, 15 * (-5 + 7) - 6 + 7);
        fit(x, 1, 0, 3, 15 * (5 + 7) + 6 + 7);
        fit(x, 2, 3, 3, 15 * (5 + 7) - 6 + 7);
        fit(x, 3, 2, 3, 15 * (-5 + 7) + 6 + 7);
    }

    private static void pushesBeyond() {
        Due.says("Terms 4: FIT: (-7 .. 7 each)");
        // eight couples would need a push by eight rows; by seven or fewer there are two
        DryPlaces x = with("", "", "", "", "", "", "", F);
        Due.place(x, 0, F, "#......#");
        fit(x, 0, 1, 2, 15 * (5 + 7) + 7);
        DryPlaces y = with(F);
        Due.place(y, 0, "", "", "", "", "", "", "#......#", F);
        fit(y, 0, 1, 2, 15 * (-5 + 7) + 7);
        // and the same by columns
        DryPlaces z = with(".......#", ".......#", ".......#", ".......#", ".......#", ".......#", ".......#", ".......#");
        Due.place(z, 0, "##", "#", "#", "#", "#", "#", "#", "##");
        fit(z, 0, 1, 2, 15 * 7 + 5 + 7);
        DryPlaces w = with("#", "#", "#", "#", "#", "#", "#", "#");
        Due.place(w, 0, "......##", ".......#", ".......#", ".......#", ".......#", ".......#", ".......#", "......##");
        fit(w, 0, 1, 2, 15 * 7 - 5 + 7);
    }

    private static void fitsByNone() {
        Due.says("20: NONE if by none, there is none such");
        DryPlaces x = full();
        Due.place(x, 0);
        fit(x, 0, 0, NONE, NONE);
        // nothing dry lies on nothing dry: by the least push there are no couples
        fit(x, 0, 1, 0, 0);
        fit(x, 1, 0, 0, 0);
        fit(x, 1, 1, 0, 0);
        // a full one and one cell in a corner: out of the ground by a push of one
        Due.place(x, 0, "#");
        fit(x, 0, 2, 1, 15 * 6 + 7);
        x.row(2, 0, 128);
        fit(x, 0, 2, 1, 15 * 6);
        Due.place(x, 0, "", "", "", "...#");
        fit(x, 0, 3, 1, 15 * 3 + 4);
    }

    private static void walkCells() {
        Due.says("21: NONE if there is no way (one is wet), there is none such");
        DryPlaces x = full();
        for (int cell : new int[] {-1, 64, LEAST, MOST}) {
            for (int what = 0; what < 2; what++) {
                Due.is("from " + cell, x.walk(0, cell, 0, what), NONE);
                Due.is("to " + cell, x.walk(0, 63, cell, what), NONE);
                Due.is("from and to " + cell, x.walk(0, cell, cell, what), NONE);
            }
        }
        Due.is("from the first to the last", x.walk(0, 0, 63, 0), 14);
        Due.is("its turnings", x.walk(0, 0, 63, 1), 1);
        Due.is("back", x.walk(0, 63, 0, 0), 14);
        x.row(0, 7, 127);
        Due.is("to a wet one", x.walk(0, 0, 63, 0), NONE);
        Due.is("from a wet one", x.walk(0, 63, 0, 0), NONE);
        Due.is("from a wet one to itself", x.walk(0, 63, 63, 0), NONE);
        Due.is("from a wet one to itself", x.walk(0, 63, 63, 1), NONE);
    }

    private static void walks() {
        Due.says("Terms 4: WALK: the fewest steps; STRAIGHT: the fewest turnings");
        DryPlaces x = with(F, "#", F, ".......#", F, "#", F, ".......#");
        Due.is("no step", x.walk(0, 0, 0, 0), 0);
        Due.is("no turning", x.walk(0, 0, 0, 1), 0);
        Due.is("one step", x.walk(0, 0, 1, 0), 1);
        Due.is("one step, no turning", x.walk(0, 0, 8, 1), 0);
        // as far as one can walk
        Due.is("the longest", x.walk(0, 7, 63, 0), 7 + 2 + 7 + 2 + 7 + 2 + 7 + 1);
        Due.is("its turnings", x.walk(0, 7, 63, 1), 7);
        DryPlaces y = with("#......#", "........", "........", "........", "........", "........", "........", "#......#");
        Due.is("no way", y.walk(0, 0, 7, 0), NONE);
        Due.is("no way over the end of a row", with(".......#", "#").walk(0, 7, 8, 0), NONE);
        Due.is("no way over the end of a row", with(".......#", "#").walk(0, 7, 8, 1), NONE);
        Due.is("no way aslant", with("#.", ".#").walk(0, 0, 9, 0), NONE);
        // a shorter one with more turnings
        DryPlaces z = with("#######", "#.....#", "##....#", ".##...#", "..##..#", "...##.#", "....###");
        Due.is("steps", z.walk(0, 0, 54, 0), 12);
        Due.is("turnings", z.walk(0, 0, 54, 1), 1);
    }

    private static void straightWalks() {
        Due.says("Terms 4: STRAIGHT: the fewest turnings (from one direction into another one) of any walk");
        DryPlaces x = full();
        for (int from : new int[] {0, 7, 27, 36, 56, 63}) {
            for (int to = 0; to < 64; to++) {
                int due = from / 8 == to / 8 || from % 8 == to % 8 ? 0 : 1;
                Due.is("from " + from + " to " + to, x.walk(0, from, to, 1), due);
            }
        }
        DryPlaces y = with("###", "#.#", "###");
        int[] due = {0, 0, 0, 0, NONE, 1, 0, 1, 1};
        for (int to = 0; to < 9; to++) {
            Due.is("around a hole to " + to, y.walk(0, 0, to / 3 * 8 + to % 3, 1), due[to]);
        }
        Due.is("from side to side", y.walk(0, 1, 17, 1), 2);
        Due.is("from side to side", y.walk(0, 8, 10, 1), 2);
        Due.is("from side to side", y.walk(0, 10, 8, 1), 2);
        Due.is("from side to side", y.walk(0, 17, 1, 1), 2);
    }

    private static void sumsOfRowsAndColumns() {
        Due.says("Terms 4: SUMS of a PLACE: dry ones of a row (0 .. 7), a column (8 .. 15)");
        DryPlaces x = full();
        DryPlaces y = with();
        DryPlaces z = with("#", "", "", "", "", "", "", ".......#");
        for (int what = 0; what < 16; what++) {
            Due.is("full " + what, x.sums(0, what), 8);
            Due.is("empty " + what, y.sums(0, what), 0);
            Due.is("two corners " + what, z.sums(0, what), what % 8 == 0 || what % 8 == 7 ? 1 : 0);
        }
    }

    private static void likes() {
        Due.says("22: LIKE what 20 + b PLACE b");
        DryPlaces x = new DryPlaces();
        for (int p = 0; p < 10; p++) {
            x.place(0);
        }
        for (int b = 0; b < 10; b++) {
            Due.is("empty ones", x.sums(0, 20 + b), 1);
        }
        Due.is("19", x.sums(0, 19), NONE);
        Due.is("30", x.sums(0, 30), NONE);
        x.row(9, 7, 128);
        Due.is("one more in the last row and column", x.sums(0, 29), 0);
        Due.is("and back", x.sums(9, 20), 0);
        x.row(0, 7, 64);
        Due.is("alike by rows alone", x.sums(0, 29), 0);
        x.row(0, 7, 0);
        x.row(0, 6, 128);
        Due.is("alike by columns alone", x.sums(0, 29), 0);
        x.row(0, 6, 0);
        x.row(0, 7, 128);
        Due.is("alike", x.sums(0, 29), 1);
        DryPlaces z = with("#.", ".#");
        Due.place(z, 0, ".#", "#.");
        Due.is("with other cells", z.sums(0, 21), 1);
        Due.is("with other cells", z.sums(1, 20), 1);
        DryPlaces y = Due.wetPlaces(4);
        Due.is("the last of four", y.sums(0, 23), 1);
        Due.is("one beyond", y.sums(0, 24), NONE);
    }

    private static void switches() {
        Due.says("Terms 4: SWITCH: the first two rows r below s and columns c below d .. NONE");
        Due.is("nothing dry", with().sums(0, 16), NONE);
        Due.is("all dry", full().sums(0, 16), NONE);
        Due.is("one", with("#").sums(0, 16), NONE);
        Due.is("the first there is", with("#.", ".#").sums(0, 16), 101);
        Due.is("the other way round", with(".#", "#.").sums(0, 16), 101);
        Due.is("three of four", with("##", "#.").sums(0, 16), NONE);
        Due.is("two in a row", with("##", "..").sums(0, 16), NONE);
        Due.is("two in a column", with("#.", "#.").sums(0, 16), NONE);
        Due.is("the last there is", with("", "", "", "", "", "", "......#.", ".......#").sums(0, 16), 6767);
        Due.is("the farthest", with("#", "", "", "", "", "", "", ".......#").sums(0, 16), 707);
        Due.is("by rows first", with("#.......", ".......#", "..#", ".#").sums(0, 16), 107);
        Due.is("by columns then", with("#.#.....", ".#.#....").sums(0, 16), 101);
        Due.is("the second row before the columns", with("#", "##", ".#").sums(0, 16), 201);
    }

    private static void purses() {
        Due.says("Terms 4: BUYS of w (1 .. 9999); 23: NONE if w can't be, or another what.");
        DryPlaces x = with("#");
        Due.place(x, 0, "##");
        Due.tell(x, 0, "worth dry;");
        for (int w : new int[] {-1, 0, 10000, LEAST, MOST}) {
            Due.is("buys(" + w + ", 0)", x.buys(w, 0), NONE);
            Due.is("buys(" + w + ", 1)", x.buys(w, 1), NONE);
        }
        Due.is("buys(1, 0)", x.buys(1, 0), 1);
        Due.is("buys(1, 1)", x.buys(1, 1), 1);
        Due.is("buys(2, 1)", x.buys(2, 1), 2);
        Due.is("buys(3, 1)", x.buys(3, 1), 3);
        Due.is("buys(9999, 0)", x.buys(9999, 0), 3);
        // together just 9999, and one above it
        Due.tell(x, 0, "worth 4998+dry;");
        Due.is("9999", x.buys(9999, 1), 3);
        Due.is("9998", x.buys(9998, 1), 2);
        Due.is("4999", x.buys(4999, 1), 1);
        Due.is("4998", x.buys(4998, 1), 0);
        Due.tell(x, 0, "worth 4999+dry;");
        Due.is("10001", x.buys(9999, 1), 2);
        Due.tell(x, 0, "worth 9999;");
        Due.is("9999 each", x.buys(9999, 1), 2);
        Due.is("9999 each", x.buys(9998, 1), 0);
    }

    private static void setsBought() {
        Due.says("Terms 4: BUYS: PLACES not OWNED .. the set (of several the least)");
        DryPlaces x = new DryPlaces();
        Due.is("no place", x.buys(9999, 0), 0);
        Due.is("no place", x.buys(9999, 1), 0);
        for (int p = 0; p < 10; p++) {
            Due.place(x, 0, "##");
        }
        Due.tell(x, 0, "worth 1;");
        for (int w = 1; w <= 10; w++) {
            Due.is("so many", x.buys(w, 0), 2 * w);
            Due.is("the least set", x.buys(w, 1), (1 << w) - 1);
        }
        Due.is("no more than ten", x.buys(11, 1), 1023);
        Due.tell(x, 0, "worth 0;");
        Due.is("for nothing", x.buys(1, 1), 1023);
        x.row(4, 0, 0);
        Due.is("one with nothing dry is not bought", x.buys(1, 1), 1023 - 16);
        for (int p = 0; p < 10; p++) {
            x.act(0, p, 0);
        }
        Due.is("all are owned", x.buys(9999, 0), 0);
        Due.is("all are owned", x.buys(9999, 1), 0);
        x.act(1, 9, 0);
        Due.is("but the last", x.buys(9999, 1), 512);
    }

    private static void tours() {
        Due.says("24: NONE if it can't be, there is none such");
        DryPlaces x = new DryPlaces();
        String line = "room 0 room 1 long 99;room 1 room 2 long 99;room 2 room 3 long 99;room 3 room 4 long 99;";
        Due.tell(x, 1, line);
        for (int room = -1; room <= 6; room++) {
            Due.is("five of six", x.tour(room, 0), NONE);
            Due.is("five of six", x.tour(room, 1), NONE);
        }
        Due.tell(x, 1, line + "room 4 room 5 long 99;");
        Due.is("from its end", x.tour(0, 0), 495);
        Due.is("ends", x.tour(0, 1), 5);
        Due.is("from its other end", x.tour(5, 0), 495);
        Due.is("ends", x.tour(5, 1), 0);
        Due.is("from within, the nearer end first", x.tour(2, 0), 99 * 7);
        Due.is("ends", x.tour(2, 1), 5);
        for (int room : new int[] {-1, 6, LEAST, MOST}) {
            Due.is("room " + room, x.tour(room, 0), NONE);
            Due.is("room " + room, x.tour(room, 1), NONE);
        }
        Due.tell(x, 1, "room 0 room 1 long 1;room 2 room 3 long 1;room 4 room 5 long 1;");
        Due.is("three and three", x.tour(0, 0), NONE);
        Due.tell(x, 1, "room 5 room 0 long 99;room 5 room 1 long 99;room 5 room 2 long 99;room 5 room 3 long 99;room 5 room 4 long 99;");
        Due.is("a star, the longest there is", x.tour(5, 0), 99 * 9);
        Due.is("of several ends the least", x.tour(5, 1), 0);
        Due.is("from a ray", x.tour(0, 0), 99 * 8);
        Due.is("of several ends the least", x.tour(0, 1), 1);
        Due.tell(x, 1, line + "room 4 room 5 long 99;room 5 room 0 long 1;");
        Due.is("a ring", x.tour(0, 0), 1 + 4 * 99);
        Due.is("ends", x.tour(0, 1), 1);
        Due.tell(x, 1, "");
        Due.is("no passages", x.tour(0, 0), NONE);
    }

    /** From the middle of a star the longest ray is walked but once, and last. */
    private static void stars() {
        Due.says("Terms 4: TOUR from a ROOM through all six by PASSAGES (any may be passed again), ending anywhere");
        DryPlaces x = new DryPlaces();
        for (int middle = 0; middle < 6; middle++) {
            for (int far = 0; far < 6; far++) {
                if (far == middle) {
                    continue;
                }
                StringBuilder text = new StringBuilder();
                for (int room = 0; room < 6; room++) {
                    if (room != middle) {
                        text.append("room ").append(middle).append(" room ").append(room).append(" long ").append(room == far ? 9 : 2).append(';');
                    }
                }
                Due.good(x, 1, text.toString(), 5);
                Due.is("how long", x.tour(middle, 0), 4 * 4 + 9);
                Due.is("where it ends", x.tour(middle, 1), far);
            }
        }
    }

    private static void vouches() {
        Due.says("Terms 4: VOUCHED: a set (itself only by a round)");
        DryPlaces x = Due.wetPlaces(10);
        Due.is("nobody", x.vouched(9), 0);
        Due.tell(x, 3, "place 9 by 0;");
        Due.is("one", x.vouched(9), 1);
        Due.is("not the other way", x.vouched(0), 0);
        Due.tell(x, 3, "place 9 by 0;place 0 by 9;");
        Due.is("a round of two", x.vouched(9), 513);
        Due.is("a round of two", x.vouched(0), 513);
        Due.is("not another", x.vouched(5), 0);
        Due.tell(x, 3, "place 0 by 1;place 0 by 9;place 0 by 3;");
        Due.is("by several", x.vouched(0), 2 + 512 + 8);
        StringBuilder text = new StringBuilder();
        for (int p = 0; p < 10; p++) {
            text.append("place ").append(p).append(" by ").append((p + 1) % 10).append(';');
        }
        Due.good(x, 3, text.toString(), 10);
        for (int p = 0; p < 10; p++) {
            Due.is("a round of ten", x.vouched(p), 1023);
        }
        Due.good(x, 3, text.substring(0, text.length() - "place 9 by 0;".length()), 9);
        for (int p = 0; p < 10; p++) {
            Due.is("no round", x.vouched(p), 1023 & -(2 << p));
        }
    }

    private static void heelCells() {
        Due.says("Terms 4: HEEL (CELLS 0 .. 63); 26: NONE if there is none such.");
        DryPlaces x = full();
        for (int cell : new int[] {-1, 64, LEAST, MOST}) {
            Due.is("left " + cell, x.lie(0, cell, 0), NONE);
            Due.is("right " + cell, x.lie(0, 63, cell), NONE);
            Due.is("both " + cell, x.lie(0, cell, cell), NONE);
        }
        Due.is("the first", x.lie(0, 0, 1), 0);
        Due.is("the last", x.lie(0, 63, 62), 0);
        Due.is("alike", x.lie(0, 63, 63), 1);
        Due.is("alike", x.lie(0, 0, 0), 1);
        x.row(0, 7, 127);
        Due.is("right on a wet one", x.lie(0, 62, 63), 1);
        Due.is("left on a wet one", x.lie(0, 63, 62), 1);
        Due.is("both on a wet one", x.lie(0, 63, 63), 1);
    }

    private static void heelsApart() {
        Due.says("Terms 4: LIE: .. or more than 4 steps of BESIDE apart, counted over all CELLS");
        DryPlaces x = full();
        int[] from = {0, 7, 27, 36, 56, 63};
        for (int left : from) {
            for (int right = 0; right < 64; right++) {
                int steps = Math.abs(left / 8 - right / 8) + Math.abs(left % 8 - right % 8);
                Due.is("lie(0, " + left + ", " + right + ")", x.lie(0, left, right), steps == 0 || steps > 4 ? 1 : 0);
            }
        }
        Due.is("by dry ones further, over all cells 2", with("###", "#.#", "#.#", "#.#").lie(0, 24, 26), 0);
        Due.is("on two islands", with("#.#", "#.#").lie(0, 0, 2), 1);
        Due.is("on two islands aslant", with("#.", ".#").lie(0, 0, 9), 1);
        Due.is("the next cell of the next row is far", with(F, F).lie(0, 7, 8), 1);
    }

    private static void feetApart() {
        Due.says("Terms 4: FEET: .. no lie, the right one in a column further to the right, in rows one apart at most");
        Due.is("nothing dry", with().feet(0), 0);
        Due.is("one", with("#").feet(0), 0);
        Due.is("two beside", with("##").feet(0), 1);
        Due.is("two in a column", with("#", "#").feet(0), 0);
        Due.is("two islands", with("#.#").feet(0), 0);
        Due.is("four apart", with("#####").feet(0), 4 + 3 + 2 + 1);
        Due.is("five apart", with("######").feet(0), 5 + 4 + 3 + 2);
        // a row of dry ones below hangs all together: what is added are couples one row, two rows apart
        Due.is("rows one apart, up", with(".#", "##").feet(0), 1 + 1);
        Due.is("rows one apart, down", with("#.", "##").feet(0), 1 + 1);
        Due.is("rows two apart", with(".#", ".#", "##").feet(0), 1 + 1);
        Due.is("a row and a cell four steps away", with("####", "#").feet(0), 3 + 2 + 1 + 3);
        Due.is("a row and a cell five steps away", with("#####", "#").feet(0), 4 + 3 + 2 + 1 + 3);
    }

    private static void game(DryPlaces x, int which, int many) {
        Due.is("game(0)", x.game(0), which);
        Due.is("game(1)", x.game(1), many);
    }

    private static void games() {
        Due.says("Terms 4: GAME: .. take 1 .. 5 of one; 28: NONE if who begins loses");
        String[] rows = {"", "#", "##", "###", "####", "#####", "######"};
        int[] takes = {NONE, 4, NONE, 2, 4, NONE, 2};
        for (int i = 0; i < rows.length; i++) {
            DryPlaces x = with(rows[i]);
            Due.tell(x, 0, "worth 0;");
            game(x, NONE, NONE);
            x.act(0, 0, 0);
            game(x, takes[i] == NONE ? NONE : 0, takes[i]);
        }
        DryPlaces x = Due.wetPlaces(10);
        Due.tell(x, 0, "worth 0;");
        for (int p = 0; p < 10; p++) {
            x.row(p, 7, p < 8 ? 0 : 128);
            x.act(0, p, 0);
        }
        game(x, NONE, NONE);
        x.row(9, 7, 192);
        game(x, 8, 4);
        x.row(8, 7, 192);
        x.row(9, 7, 224);
        game(x, 8, 4);
        x.row(8, 7, 0);
        game(x, 9, 2);
        x.act(1, 9, 0);
        game(x, NONE, NONE);
    }
}
