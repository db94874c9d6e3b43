/** What Terms 2 says of what THE LAW tells (promises 6, 12, 13): what is held, what wraps, what is asked, at the bounds. */
public final class BoundsOfLawTest {
    private static final String FULL = "########";
    // 2 to the 31st, which is the least int, and one less than it, the greatest
    private static final String LEAST = "4096*16*4096*8";
    private static final String MOST = "4096*16*4096*8-1";

    public static void main(String[] args) {
        heldCreeps();
        heldWorth();
        heldComes();
        heldWherever();
        withoutALine();
        dryByEight();
        wraps();
        partsTowardsNothing();
        comparisons();
        joinedComparisons();
        firstLine();
        known();
        lightAndRoom();
        wet();
        longest();
        Due.close();
    }

    /** A place of the year 40 with eight dry cells, and this law. */
    private static DryPlaces under(String law) {
        DryPlaces x = new DryPlaces();
        Due.place(x, 40, FULL);
        Due.is("law '" + law + "'", Due.tell(x, 0, law) > 0, true);
        return x;
    }

    private static void heldCreeps() {
        Due.says("Terms 2: creeps held to 0 .. 1000");
        String[] told = {"0-1", "0", "1", "999", "1000", "1001", "9999", LEAST, MOST};
        int[] due = {0, 0, 1, 999, 1000, 1000, 1000, 0, 1000};
        for (int i = 0; i < told.length; i++) {
            Due.is("creeps " + told[i], under("creeps " + told[i] + ";").creeps(0, 0), due[i]);
        }
    }

    private static void heldWorth() {
        Due.says("Terms 2: worth to 0 .. 9999");
        String[] told = {"0-1", "0", "1", "9998", "9999", "9999+1", "9999*9", LEAST, MOST};
        int[] due = {0, 0, 1, 9998, 9999, 9999, 9999, 0, 9999};
        for (int i = 0; i < told.length; i++) {
            Due.is("worth " + told[i], under("worth " + told[i] + ";").of(0, 5), due[i]);
        }
    }

    private static void heldComes() {
        Due.says("Terms 2: comes to 0 .. 99");
        String[] told = {"0-1", "0", "1", "98", "99", "100", "9999", LEAST, MOST};
        int[] due = {0, 0, 1, 98, 99, 99, 99, 0, 99};
        for (int i = 0; i < told.length; i++) {
            Due.is("comes " + told[i], under("comes " + told[i] + ";").of(0, 6), due[i]);
        }
    }

    private static void heldWherever() {
        Due.says("Terms 2: held (where hands and days ask, too)");
        DryPlaces x = under("worth 9999*9; comes 100; creeps 1001;");
        x.purse(9998);
        Due.is("too dear", x.act(0, 0, 0), false);
        Due.is("for 9999 none", x.buys(9998, 0), 0);
        x.purse(9999);
        Due.is("for 9999", x.buys(9999, 1), 1);
        Due.is("for 9999", x.act(0, 0, 0), true);
        x.act(2, 0, 0);
        Due.is("all creep", x.days(1), 8);
        Due.is("99 come", x.look(2), 99);
        Due.is("seen in thought", x.goes(1, 1), 198);
        Due.tell(x, 0, "worth 0-5; comes 0-5; creeps 0-5;");
        x.row(0, 0, 3);
        Due.is("none creep", x.days(1), 0);
        Due.is("none come", x.look(2), 99);
        Due.is("sold for nothing", x.act(1, 0, 0), true);
        Due.is("purse", x.look(1), 99);
    }

    private static void withoutALine() {
        Due.says("Terms 2: none: creeps: 10 times wet, worth: 5 times dry and year, comes: light and dry by 8");
        DryPlaces x = new DryPlaces();
        Due.place(x, 0);
        Due.place(x, 99, FULL, FULL, FULL, FULL, FULL, FULL, FULL, FULL);
        Due.place(x, 1, "#");
        String[] laws = {"", "worth 7 when 1=2; comes 7 when 1=2; creeps 7 when 1=2;"};
        for (String law : laws) {
            Due.tell(x, 0, law);
            Due.is("worth of nothing", x.of(0, 5), 0);
            Due.is("worth of the most", x.of(1, 5), 419);
            Due.is("worth of one", x.of(2, 5), 6);
            Due.is("comes of nothing", x.of(0, 6), 0);
            Due.is("comes of the most", x.of(1, 6), 8);
            Due.is("comes of one", x.of(2, 6), 0);
            Due.is("creeps within", x.creeps(1, 9), 0);
            Due.is("creeps at a side", x.creeps(1, 1), 10);
            Due.is("creeps in a corner", x.creeps(1, 0), 20);
            Due.is("creeps alone", x.creeps(2, 0), 40);
        }
        Due.tell(x, 0, "worth 7;");
        Due.is("worth has a line", x.of(1, 5), 7);
        Due.is("comes has none", x.of(1, 6), 8);
        Due.is("creeps has none", x.creeps(1, 0), 20);
    }

    private static void dryByEight() {
        Due.says("Terms: Quotients go downwards. 2: comes: light and dry by 8");
        DryPlaces x = new DryPlaces();
        x.place(0);
        x.act(0, 0, 0);
        x.act(2, 0, 3);
        for (int dry = 0; dry <= 17; dry++) {
            x.row(0, 0, (1 << Math.min(8, dry)) - 1);
            x.row(0, 1, (1 << Math.min(8, Math.max(0, dry - 8))) - 1);
            x.row(0, 2, dry > 16 ? 1 : 0);
            x.act(3, 3, 0);
            Due.is("comes of " + dry, x.of(0, 6), dry / 8);
            x.act(3, 3, 9);
            Due.is("comes of " + dry + " in light", x.of(0, 6), 9 + dry / 8);
        }
    }

    private static void so(String b, boolean due) {
        Due.is(b, under("worth 1 when " + b + "; worth 2;").of(0, 5), due ? 1 : 2);
    }

    private static void wraps() {
        Due.says("Terms 2: Ints, which wrap");
        so(LEAST + "<0", true);
        so(MOST + ">0", true);
        so(MOST + "+1=" + LEAST, true);
        so(MOST + "+1<" + MOST, true);
        so(LEAST + "-1=" + MOST, true);
        so(LEAST + "-1>" + LEAST, true);
        so("0-" + LEAST + "=" + LEAST, true);
        so(LEAST + "*2=0", true);
        so("4096*16*4096*16=0", true);
        so("4096*16*4096*16-1<0", true);
        so("4096*16*4096*16/9999=0", true);
        // 3 times 2 to the 31st is the least int again, 5 times 2 to the 30th is 2 to the 30th
        so(LEAST + "*3=" + LEAST, true);
        so("4096*16*4096*4*5=4096*16*4096*4", true);
    }

    private static void partsTowardsNothing() {
        Due.says("Terms 2: / goes towards 0");
        // the least int by 9999 is -214769.8; 214769 is 21 times 9999 and 4790
        so(LEAST + "/9999=0-9999*21-4790", true);
        so(LEAST + "/9999=0-9999*21-4791", false);
        // by 3: -715827882.7, so three times it and 2 is the least int again
        so(LEAST + "/3*3-2=" + LEAST, true);
        so(LEAST + "/3*3+1=" + LEAST, false);
        so(LEAST + "/1=" + LEAST, true);
        so("7/8=0", true);
        so("8/8=1", true);
        so("9/8=1", true);
        so("15/8=1", true);
        so("16/8=2", true);
        so("0-7/8=0", true);
        so("0-8/8=0-1", true);
    }

    private static void comparisons() {
        Due.says("Terms 2: C = E (< | = | >) E");
        int[][] couples = {{4, 5}, {5, 5}, {6, 5}, {0, 0}, {0, 1}, {9999, 9998}, {9998, 9999}, {9999, 9999}};
        for (int[] couple : couples) {
            int a = couple[0];
            int b = couple[1];
            so(a + "<" + b, a < b);
            so(a + "=" + b, a == b);
            so(a + ">" + b, a > b);
            so("0-" + a + "<0-" + b, -a < -b);
            so("0-" + a + ">0-" + b, -a > -b);
        }
        so(LEAST + "<" + MOST, true);
        so(LEAST + ">" + MOST, false);
        so(MOST + "<" + LEAST, false);
        so("0-1<0", true);
        so("0-1>0", false);
    }

    private static void joinedComparisons() {
        Due.says("Terms 2: B = A {or A}. A = C {and C}. C = .. | not C | ( B )");
        String[] trues = {"1<2", "2=2", "3>2", "(1<2)", "not 2<1"};
        String[] falses = {"2<2", "2=3", "2>2", "(3<2)", "not 3>2"};
        for (int i = 0; i < trues.length; i++) {
            for (int j = 0; j < trues.length; j++) {
                for (int bits = 0; bits < 4; bits++) {
                    boolean a = (bits & 1) != 0;
                    boolean b = (bits & 2) != 0;
                    String left = a ? trues[i] : falses[i];
                    String right = b ? trues[j] : falses[j];
                    so(left + " and " + right, a && b);
                    so(left + " or " + right, a || b);
                    so("not " + left + " and " + right, !a && b);
                    so("not (" + left + " or " + right + ")", !(a || b));
                }
            }
        }
    }

    private static void firstLine() {
        Due.says("Terms 2: E of the first line with that word whose B is so, or that has none");
        StringBuilder law = new StringBuilder();
        for (int i = 0; i < 15; i++) {
            law.append("worth ").append(i).append(" when dry>").append(i).append(';');
        }
        DryPlaces x = under(law + "comes 3;");
        Due.is("the first", x.of(0, 5), 0);
        law.setLength(0);
        for (int i = 1; i < 15; i++) {
            law.append("worth ").append(i).append(" when dry<").append(i).append(';');
        }
        x = under("comes 77;" + law + "worth 99;");
        for (int dry = 0; dry <= 8; dry++) {
            x.row(0, 0, (1 << dry) - 1);
            Due.is("dry " + dry, x.of(0, 5), dry + 1);
        }
        x.row(0, 1, 63);
        Due.is("dry 14: the last of sixteen lines", x.of(0, 5), 99);
        x.row(0, 1, 31);
        Due.is("dry 13: the last that is so", x.of(0, 5), 14);
        Due.is("another word's line", x.of(0, 6), 77);
        for (int so = 0; so < 2; so++) {
            x = under("comes 77;".repeat(15) + "worth 99 when year=" + (39 + so) + ";");
            Due.is("the 16th line's B", x.of(0, 5), so == 1 ? 99 : 5 * 8 + 40);
        }
    }

    private static void known() {
        Due.says("Terms 2: dry .. edges .. year .. hosed .. paid .. day");
        DryPlaces x = new DryPlaces();
        Due.place(x, 99, FULL, FULL, FULL, FULL, FULL, FULL, FULL, FULL);
        Due.place(x, 0);
        Due.place(x, 1, "#.#.#.#.", ".#.#.#.#", "#.#.#.#.", ".#.#.#.#", "#.#.#.#.", ".#.#.#.#", "#.#.#.#.", ".#.#.#.#");
        int[][] due = {{64, 32, 99, 0}, {0, 0, 0, 0}, {32, 128, 1, 0}};
        String[] words = {"dry", "edges", "year", "hosed"};
        for (int i = 0; i < words.length; i++) {
            Due.tell(x, 0, "worth " + words[i] + "+100; comes " + words[i] + "-30; creeps " + words[i] + ";");
            for (int p = 0; p < 3; p++) {
                Due.is("worth by " + words[i], x.of(p, 5), due[p][i] + 100);
                Due.is("comes by " + words[i], x.of(p, 6), Math.max(0, Math.min(99, due[p][i] - 30)));
                Due.is("creeps by " + words[i], x.creeps(p, 0), p == 1 ? -1 : due[p][i]);
            }
        }
        Due.tell(x, 0, "worth 9999 when paid=0; worth paid-1;");
        x.purse(9999);
        x.act(0, 0, 0);
        Due.is("paid", x.of(0, 5), 9998);
        x.act(4, 0, 0);
        Due.tell(x, 0, "worth hosed; comes paid/101;");
        Due.is("hosed", x.of(0, 5), 1);
        Due.is("another is not", x.of(1, 5), 0);
        Due.is("paid", x.of(0, 6), 99);
        x.act(1, 0, 0);
        Due.is("nothing is paid for one that was sold", x.of(0, 6), 0);
    }

    private static void lightAndRoom() {
        Due.says("Terms 2: light: of its ROOM (none: 0); room: its ROOM and 1 (none: 0)");
        DryPlaces x = under("worth 0; comes light;");
        for (int room = 0; room < 6; room++) {
            x.act(3, room, 9 - room);
        }
        Due.is("no room, no light, though ROOM 0 has some", x.of(0, 6), 0);
        x.act(0, 0, 0);
        Due.is("bought, in no room", x.of(0, 6), 0);
        for (int room = 0; room < 6; room++) {
            x.act(2, 0, room);
            Due.tell(x, 0, "worth room; comes light;");
            Due.is("light of " + room, x.of(0, 6), 9 - room);
            Due.is("room " + room, x.of(0, 5), room + 1);
        }
        x.act(1, 0, 0);
        Due.is("sold: no light", x.of(0, 6), 0);
        Due.is("sold: no room", x.of(0, 5), 0);
    }

    private static void wet() {
        Due.says("Terms 2: wet: of creeps: how many wet ones (outside too) are BESIDE the CELL asked (of worth, comes: 0)");
        DryPlaces x = under("worth wet+5; comes wet+5; creeps wet;");
        Due.is("worth", x.of(0, 5), 5);
        Due.is("comes", x.of(0, 6), 5);
        Due.is("creeps, then worth", x.creeps(0, 0) * 100 + x.of(0, 5), 305);
        DryPlaces y = new DryPlaces();
        Due.place(y, 0, ".#......", "###....#", ".#......", ".......#");
        Due.tell(y, 0, "creeps wet;");
        int[][] due = {{9, 0}, {1, 3}, {8, 3}, {10, 3}, {17, 3}, {15, 4}, {31, 4}};
        for (int[] cell : due) {
            Due.is("cell " + cell[0], y.creeps(0, cell[0]), cell[1]);
        }
    }

    private static void longest() {
        Due.says("Terms 2: a LAW as long as the TAPE");
        DryPlaces x = under("worth 1" + "+1".repeat(196) + ";");
        Due.is("a sum", x.of(0, 5), 197);
        x = under("worth 7" + "*1".repeat(196) + ";");
        Due.is("a product", x.of(0, 5), 7);
        x = under("worth 2 when 1=1" + " and 1=1".repeat(47) + "       ;");
        Due.is("all are so", x.of(0, 5), 2);
        x = under("worth 2 when 1=2" + " or 1=2".repeat(53) + " or 1=1  ;");
        Due.is("the last is so", x.of(0, 5), 2);
    }
}
