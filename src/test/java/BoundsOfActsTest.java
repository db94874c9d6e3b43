/** What Terms 1 and 3 and promises 6, 12 to 15 say of bounds: at each bound and one beyond it on either side. */
public final class BoundsOfActsTest {
    private static final int NONE = DryPlaces.NONE;
    private static final int LEAST = Integer.MIN_VALUE;
    private static final int MOST = Integer.MAX_VALUE;

    public static void main(String[] args) {
        whatAndWho();
        buying();
        buyingForNothing();
        vIsNotAsked();
        selling();
        sellingForNothing();
        hanging();
        lighting();
        hosing();
        wiping();
        ofWhat();
        creepsOfCells();
        roomsAndPassages();
        bookLines();
        fullBook();
        fullBookWithinADay();
        Due.close();
    }

    /** A place of this worth alone, and a purse. */
    private static DryPlaces priced(int worth, int purse) {
        DryPlaces x = new DryPlaces();
        Due.place(x, 0, "########", "########");
        Due.tell(x, 0, "worth " + worth + ";");
        x.purse(purse);
        return x;
    }

    private static void line(DryPlaces x, int i, int day, int what, int which, int much) {
        int[] due = {day, what, which, much};
        for (int part = 0; part < 4; part++) {
            Due.is("book(" + i + ", " + part + ")", x.book(i, part), due[part]);
        }
    }

    private static void whatAndWho() {
        Due.says("6: false if it can't be, or another what.");
        DryPlaces x = new DryPlaces();
        for (int what = -1; what <= 6; what++) {
            Due.is("act(" + what + ") of no place", x.act(what, 0, 0), what == 3);
        }
        x = Due.wetPlaces(10);
        Due.tell(x, 0, "worth 0;");
        for (int p = 0; p < 10; p++) {
            x.row(p, 0, 1);
            x.act(0, p, 0);
        }
        for (int what : new int[] {-1, 6, 7, LEAST, MOST}) {
            Due.is("act(" + what + ")", x.act(what, 0, 0), false);
        }
        for (int what : new int[] {1, 2, 4, 5, 0}) {
            for (int who : new int[] {-1, 10, LEAST, MOST}) {
                Due.is("act(" + what + ", " + who + ")", x.act(what, who, 0), false);
            }
        }
        Due.is("nothing was done", x.look(5), 10);
        for (int what : new int[] {2, 5, 4, 1, 0}) {
            Due.is("act(" + what + ") of the first", x.act(what, 0, 0), true);
            Due.is("act(" + what + ") of the last", x.act(what, 9, 0), true);
        }
        x = Due.wetPlaces(4);
        Due.tell(x, 0, "worth 0;");
        Due.is("the last of four", x.act(0, 3, 0), true);
        Due.is("one beyond", x.act(0, 4, 0), false);
        Due.is("one beyond hosed", x.act(4, 4, 0), false);
    }

    private static void buying() {
        Due.says("Terms 3: worth is asked; is it PURSE at most: PURSE less, PAID that, OWNED.");
        int[][] prices = {{1, 0}, {1, 1}, {1, 2}, {500, 499}, {500, 500}, {500, 501}, {9999, 9998}, {9999, 9999}, {9999, 10000}, {9999, 99999}};
        for (int[] price : prices) {
            DryPlaces x = priced(price[0], price[1]);
            boolean can = price[0] <= price[1];
            Due.is("to buy for " + price[0] + " of " + price[1], x.act(0, 0, -1), can);
            Due.is("purse", x.look(1), can ? price[1] - price[0] : price[1]);
            Due.is("paid", x.of(0, 4), can ? price[0] : 0);
            Due.is("owned", x.of(0, 2), can ? 1 : 0);
            Due.is("room", x.of(0, 1), NONE);
            Due.is("lines", x.look(5), can ? 1 : 0);
            Due.is("undoing", x.look(11), can ? 1 : 0);
        }
        DryPlaces x = priced(7, 14);
        Due.is("to buy", x.act(0, 0, 0), true);
        Due.is("one that is owned", x.act(0, 0, 0), false);
        Due.is("purse", x.look(1), 7);
        line(x, 0, 0, 0, 0, 7);
    }

    private static void buyingForNothing() {
        Due.says("THE BOOK: how much (0, 1: worth)");
        DryPlaces x = priced(0, 0);
        Due.is("to buy for nothing", x.act(0, 0, 0), true);
        Due.is("lines", x.look(5), 1);
        line(x, 0, 0, 0, 0, 0);
    }

    private static void vIsNotAsked() {
        Due.says("6: What 0 to BUY, 1 to SELL PLACE who (v is not named)");
        DryPlaces x = priced(3, 50);
        for (int v : new int[] {-1, 6, 8, 64, LEAST, MOST}) {
            Due.is("to buy, v " + v, x.act(0, 0, v), true);
            Due.is("to sell, v " + v, x.act(1, 0, v), true);
        }
        Due.is("purse", x.look(1), 50);
        Due.is("lines", x.look(5), 12);
    }

    private static void selling() {
        Due.says("Terms 3: To SELL an OWNED one: PURSE worth more (99999 at most), PAID 0, ROOM none, not OWNED.");
        int[][] prices = {{0, 99999}, {99998, 99999}, {89999, 99998}, {90000, 99999}, {90001, 99999}, {99999, 99999}};
        for (int[] price : prices) {
            DryPlaces x = priced(price[0] == 99998 ? 1 : 9999, 99999);
            x.act(0, 0, 0);
            x.act(2, 0, 5);
            x.act(4, 0, 0);
            x.purse(price[0]);
            Due.is("to sell", x.act(1, 0, 0), true);
            Due.is("purse " + price[0], x.look(1), price[0] == 0 ? 9999 : price[1]);
            Due.is("paid", x.of(0, 4), 0);
            Due.is("room", x.of(0, 1), NONE);
            Due.is("owned", x.of(0, 2), 0);
            Due.is("hosed stays", x.of(0, 3), 1);
            Due.is("its dry ones stay", x.shape(0, 0), 8);
            line(x, 3, 0, 1, 0, price[0] == 99998 ? 1 : 9999);
            Due.is("one that is not owned", x.act(1, 0, 0), false);
            Due.is("lines", x.look(5), 4);
        }
    }

    private static void sellingForNothing() {
        Due.says("THE BOOK: how much (0, 1: worth)");
        DryPlaces x = priced(0, 0);
        x.act(0, 0, 0);
        Due.is("to sell for nothing", x.act(1, 0, 0), true);
        line(x, 1, 0, 1, 0, 0);
        Due.is("purse", x.look(1), 0);
    }

    private static void hanging() {
        Due.says("Terms 1: ROOM 0 .. 5 or none (none at first); 3: To HANG an OWNED one: ROOM.");
        DryPlaces x = priced(0, 0);
        Due.is("none at first", x.of(0, 1), NONE);
        for (int room = 0; room < 6; room++) {
            Due.is("one that is not owned", x.act(2, 0, room), false);
        }
        x.act(0, 0, 0);
        Due.is("bought, none yet", x.of(0, 1), NONE);
        for (int room : new int[] {0, 1, 4, 5, 5}) {
            Due.is("to hang in " + room, x.act(2, 0, room), true);
            for (int beyond : new int[] {-1, 6, LEAST, MOST}) {
                Due.is("to hang in " + beyond, x.act(2, 0, beyond), false);
            }
            Due.is("room", x.of(0, 1), room);
            line(x, x.look(5) - 1, 0, 2, 0, room);
        }
        Due.is("lines", x.look(5), 6);
    }

    private static void lighting() {
        Due.says("Terms 1: LIGHT of ROOMS 0 .. 9 (0 at first)");
        DryPlaces x = new DryPlaces();
        for (int room : new int[] {-1, 6, LEAST, MOST}) {
            Due.is("room " + room, x.act(3, room, 1), false);
        }
        for (int room : new int[] {0, 1, 4, 5}) {
            for (int light : new int[] {0, 1, 8, 9}) {
                Due.is("to light " + room + " by " + light, x.act(3, room, light), true);
                for (int beyond : new int[] {-1, 10, LEAST, MOST}) {
                    Due.is("to light by " + beyond, x.act(3, room, beyond), false);
                }
                Due.is("light", x.room(room, 0), light);
            }
        }
        Due.is("another room", x.room(2, 0), 0);
        Due.is("another room", x.room(3, 0), 0);
        Due.is("no line", x.look(5), 0);
    }

    private static void hosing() {
        Due.says("Terms 3: To HOSE one: HOSED, all CELLS of a ROW are wet.");
        DryPlaces x = new DryPlaces();
        Due.place(x, 0, "########", "########", "########", "########", "########", "########", "########", "########");
        Due.place(x, 0, "########");
        for (int row : new int[] {-1, 8, LEAST, MOST}) {
            Due.is("row " + row, x.act(4, 0, row), false);
        }
        Due.is("not hosed", x.of(0, 3), 0);
        Due.is("nothing is wet", x.shape(0, 0), 64);
        int dry = 64;
        for (int row : new int[] {0, 7, 1, 6}) {
            Due.is("row " + row, x.act(4, 0, row), true);
            dry -= 8;
            Due.is("its row", x.of(0, 10 + row), 0);
            Due.is("no other row", x.shape(0, 0), dry);
            Due.is("hosed", x.of(0, 3), 1);
            line(x, x.look(5) - 1, 0, 3, 0, row);
        }
        Due.is("one that is wet", x.act(4, 0, 0), true);
        Due.is("another place is not hosed", x.of(1, 3), 0);
        Due.is("another place is dry", x.of(1, 10), 255);
        Due.is("another place", x.act(4, 1, 3), true);
        Due.is("it is hosed, too", x.of(1, 3), 1);
        Due.is("the first still is", x.of(0, 3), 1);
    }

    private static void wiping() {
        Due.says("Terms 3: to WIPE (a CELL of an OWNED PLACE wet); 6: to WIPE CELL v of PLACE who (dry)");
        DryPlaces x = new DryPlaces();
        Due.place(x, 0, "##......", "", "", "", "", "", "", "......##");
        Due.tell(x, 0, "worth 0;");
        Due.is("one that is not owned", x.act(5, 0, 0), false);
        x.act(0, 0, 0);
        for (int cell : new int[] {-1, 64, 65, LEAST, MOST, 2, 61, 8, 55}) {
            Due.is("cell " + cell, x.act(5, 0, cell), false);
        }
        Due.is("nothing is wet", x.shape(0, 0), 4);
        int left = 4;
        for (int cell : new int[] {0, 63, 1, 62}) {
            Due.is("cell " + cell, x.act(5, 0, cell), true);
            left--;
            Due.is("it is wet", x.creeps(0, cell), NONE);
            Due.is("no other one", x.shape(0, 0), left);
            Due.is("once", x.act(5, 0, cell), false);
        }
        Due.is("not hosed", x.of(0, 3), 0);
        Due.is("no line", x.look(5), 1);
    }

    private static void ofWhat() {
        Due.says("12: NONE - 1 if there is none such, or another what.");
        DryPlaces x = Due.wetPlaces(2);
        for (int what = -3; what <= 20; what++) {
            boolean is = what >= 0 && what <= 6 || what >= 10 && what <= 17;
            Due.is("of(1, " + what + ")", x.of(1, what) != NONE - 1, is);
            for (int p : new int[] {-1, 2, 10, LEAST, MOST}) {
                Due.is("of(" + p + ", " + what + ")", x.of(p, what), NONE - 1);
            }
        }
        Due.is("of(1, LEAST)", x.of(1, LEAST), NONE - 1);
        Due.is("of(1, MOST)", x.of(1, MOST), NONE - 1);
        Due.is("1 ROOM (NONE)", x.of(1, 1), NONE);
        x = Due.wetPlaces(10);
        Due.is("the last of ten", x.of(9, 0), 9);
        Due.is("one beyond", x.of(10, 0), NONE - 1);
    }

    private static void creepsOfCells() {
        Due.says("13: NONE if there is none such, or it is wet.");
        DryPlaces x = new DryPlaces();
        Due.is("none told", x.creeps(0, 0), NONE);
        Due.place(x, 0, "########", "########", "########", "########", "########", "########", "########", "########");
        Due.place(x, 0);
        for (int cell : new int[] {-1, 64, LEAST, MOST}) {
            Due.is("cell " + cell, x.creeps(0, cell), NONE);
        }
        for (int p : new int[] {-1, 2, LEAST, MOST}) {
            Due.is("place " + p, x.creeps(p, 0), NONE);
        }
        int[][] wets = {{0, 2}, {1, 1}, {7, 2}, {8, 1}, {9, 0}, {54, 0}, {55, 1}, {56, 2}, {62, 1}, {63, 2}};
        for (int[] wet : wets) {
            Due.is("outside is wet: cell " + wet[0], x.creeps(0, wet[0]), 10 * wet[1]);
            Due.is("a wet one", x.creeps(1, wet[0]), NONE);
        }
        x.row(1, 3, 16);
        Due.is("alone", x.creeps(1, 28), 40);
        x.row(1, 2, 16);
        Due.is("with one", x.creeps(1, 28), 30);
        x.row(1, 3, 48);
        Due.is("with two", x.creeps(1, 28), 20);
    }

    private static void roomsAndPassages() {
        Due.says("14: NONE - 1 if there is none such, or another what.");
        DryPlaces x = new DryPlaces();
        Due.tell(x, 1, "room 0 room 5 long 1; room 5 room 4 long 99;");
        for (int room : new int[] {-1, 6, LEAST, MOST}) {
            for (int what : new int[] {0, 10, 15}) {
                Due.is("room(" + room + ", " + what + ")", x.room(room, what), NONE - 1);
            }
        }
        for (int room : new int[] {0, 5}) {
            for (int what : new int[] {-1, 1, 5, 9, 16, 17, LEAST, MOST}) {
                Due.is("room(" + room + ", " + what + ")", x.room(room, what), NONE - 1);
            }
            Due.is("light", x.room(room, 0), 0);
        }
        Due.is("from the first to the last", x.room(0, 15), 1);
        Due.is("from the last to the first", x.room(5, 10), 1);
        Due.is("as long as can be", x.room(5, 14), 99);
        Due.is("NONE: none", x.room(0, 14), NONE);
        Due.is("NONE: itself", x.room(0, 10), NONE);
        Due.is("NONE: itself", x.room(5, 15), NONE);
    }

    private static void bookLines() {
        Due.says("15: NONE if there is none such, or another what.");
        DryPlaces x = Due.wetPlaces(3);
        Due.is("no line yet", x.book(0, 0), NONE);
        x.days(5);
        x.act(4, 2, 6);
        Due.is("no line but one", x.book(1, 0), NONE);
        x.act(4, 1, 7);
        line(x, 0, 5, 3, 2, 6);
        line(x, 1, 5, 3, 1, 7);
        for (int i : new int[] {-1, 2, 150, LEAST, MOST}) {
            for (int what = -1; what <= 4; what++) {
                Due.is("book(" + i + ", " + what + ")", x.book(i, what), NONE);
            }
        }
        for (int what : new int[] {-1, 4, LEAST, MOST}) {
            Due.is("book(0, " + what + ")", x.book(0, what), NONE);
            Due.is("book(1, " + what + ")", x.book(1, what), NONE);
        }
    }

    private static void fullBook() {
        Due.says("Terms 3: THE BOOK (150 lines; no more then)");
        DryPlaces x = Due.wetPlaces(1);
        for (int i = 0; i < 149; i++) {
            x.act(4, 0, 1);
        }
        Due.is("lines", x.look(5), 149);
        Due.is("no 150th yet", x.book(149, 0), NONE);
        Due.is("the 150th", x.act(4, 0, 6), true);
        Due.is("lines", x.look(5), 150);
        line(x, 149, 0, 3, 0, 6);
        Due.is("the 151st is done all the same", x.act(4, 0, 7), true);
        Due.is("lines", x.look(5), 150);
        line(x, 149, 0, 3, 0, 6);
        Due.is("no 151st", x.book(150, 0), NONE);
        Due.tell(x, 0, "worth 0;");
        Due.is("to buy", x.act(0, 0, 0), true);
        Due.is("to hang", x.act(2, 0, 3), true);
        Due.is("room", x.of(0, 1), 3);
        Due.is("to sell", x.act(1, 0, 0), true);
        Due.is("lines", x.look(5), 150);
        line(x, 149, 0, 3, 0, 6);
    }

    private static void fullBookWithinADay() {
        Due.says("Terms 3: THE BOOK (150 lines; no more then)");
        DryPlaces x = Due.shown("creeps 1000; comes 3;", "########", "########");
        for (int i = 2; i < 149; i++) {
            x.act(4, 0, 7);
        }
        Due.is("lines", x.look(5), 149);
        Due.is("all creep", x.days(1), 16);
        Due.is("lines", x.look(5), 150);
        line(x, 149, 0, 4, 0, 16);
        Due.is("seen without a line", x.look(2), 3);
        Due.is("purse", x.look(1), 3);
        Due.is("a day more", x.days(1), 0);
        Due.is("seen without a line", x.look(2), 6);
        Due.is("lines", x.look(5), 150);
        x.undo();
        x.undo();
        Due.is("undone", x.look(5), 149);
        Due.is("no 150th", x.book(149, 0), NONE);
        x.act(4, 0, 2);
        line(x, 149, 0, 3, 0, 2);
    }
}
