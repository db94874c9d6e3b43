/** Promises 1 to 5 and 31: a new object, state, place, row, purse, look. */
public final class TellTest {
    public static void main(String[] args) {
        newObject();
        states();
        places();
        rows();
        purses();
        looks();
        Due.close();
    }

    private static void newObject() {
        DryPlaces x = new DryPlaces();
        for (int what = 0; what <= 11; what++) {
            Due.is("new: look(" + what + ")", x.look(what), 0);
        }
        for (int room = 0; room < 6; room++) {
            Due.is("new: light", x.room(room, 0), 0);
            for (int to = 0; to < 6; to++) {
                Due.is("new: passage", x.room(room, 10 + to), DryPlaces.NONE);
            }
        }
        Due.is("new: fault(0)", x.fault(0), 0);
        Due.is("new: fault(1)", x.fault(1), DryPlaces.NONE);
        Due.is("new: undo", x.undo(), false);
        Due.is("new: image(false)", x.image(false), false);
        Due.is("NONE", DryPlaces.NONE, -1);
    }

    private static void states() {
        DryPlaces x = new DryPlaces();
        Due.is("state(7)", x.state(7), 0);
        Due.is("state(MIN)", x.state(Integer.MIN_VALUE), 7);
        Due.is("look(6)", x.look(6), Integer.MIN_VALUE);
        Due.is("state(-1)", x.state(-1), Integer.MIN_VALUE);
        Due.is("look(6) as it is", x.look(6), -1);
    }

    private static void places() {
        DryPlaces x = new DryPlaces();
        Due.is("place(-1)", x.place(-1), DryPlaces.NONE);
        Due.is("place(100)", x.place(100), DryPlaces.NONE);
        Due.is("look(0)", x.look(0), 0);
        for (int i = 0; i < 10; i++) {
            Due.is("place", x.place(i * 11), i);
            Due.is("its year", x.of(i, 0), i * 11);
            Due.is("its room", x.of(i, 1), DryPlaces.NONE);
            for (int what : new int[] {2, 3, 4, 10, 11, 12, 13, 14, 15, 16, 17}) {
                Due.is("of new " + what, x.of(i, what), 0);
            }
        }
        Due.is("the eleventh", x.place(5), DryPlaces.NONE);
        Due.is("look(0)", x.look(0), 10);
        Due.is("year of the last", x.of(9, 0), 99);
        Due.is("of(10)", x.of(10, 0), -2);
    }

    private static void rows() {
        DryPlaces x = new DryPlaces();
        Due.is("row of none", x.row(0, 0, 1), false);
        x.place(1);
        x.place(2);
        Due.is("row(-1)", x.row(-1, 0, 1), false);
        Due.is("row of no place", x.row(2, 0, 1), false);
        Due.is("row -1", x.row(0, -1, 1), false);
        Due.is("row 8", x.row(0, 8, 1), false);
        Due.is("bits -1", x.row(0, 0, -1), false);
        Due.is("bits 256", x.row(0, 0, 256), false);
        Due.is("nothing changed", x.shape(0, 0), 0);
        for (int r = 0; r < 8; r++) {
            Due.is("row", x.row(1, r, 255 - r * 31), true);
        }
        for (int r = 0; r < 8; r++) {
            Due.is("of row", x.of(1, 10 + r), 255 - r * 31);
            Due.is("of the other's row", x.of(0, 10 + r), 0);
        }
        Due.is("a row of none", x.row(1, 5, 0), true);
        Due.is("row 5", x.of(1, 15), 0);
        Due.is("row told again", x.row(1, 7, 129), true);
        Due.is("row 7", x.of(1, 17), 129);
        Due.is("row 6", x.of(1, 16), 255 - 6 * 31);
        Due.is("cell 63 is dry", x.creeps(1, 63) >= 0, true);
        Due.is("cell 62 is wet", x.creeps(1, 62), DryPlaces.NONE);
    }

    private static void purses() {
        DryPlaces x = new DryPlaces();
        Due.is("purse(-1)", x.purse(-1), false);
        Due.is("purse(100000)", x.purse(100000), false);
        Due.is("look(1)", x.look(1), 0);
        Due.is("purse(99999)", x.purse(99999), true);
        Due.is("look(1)", x.look(1), 99999);
        Due.is("purse(0)", x.purse(0), true);
        Due.is("look(1)", x.look(1), 0);
    }

    private static void looks() {
        DryPlaces x = new DryPlaces();
        Due.place(x, 0, "##");
        Due.place(x, 0, "###");
        Due.place(x, 0, "#");
        x.purse(500);
        Due.tell(x, 0, "worth dry; comes 3; worth 1;");
        Due.tell(x, 1, "room 0 room 1 long 2; room 0 room 1 long 1;");
        Due.tell(x, 2, "on 1 light 0 2;");
        Due.tell(x, 3, "place 0 by 1; place 0 by 2; place 1 by 2; place 2 by 0;");
        x.state(99);
        x.act(0, 0, 0);
        x.act(0, 2, 0);
        x.act(2, 2, 5);
        Due.is("days", x.days(1) >= 0, true);
        Due.is("look 0", x.look(0), 3);
        Due.is("look 1", x.look(1), 500 - 3 + 3);
        Due.is("look 2", x.look(2), 3);
        Due.is("look 3", x.look(3), 5);
        Due.is("look 4", x.look(4), 1);
        Due.is("look 7", x.look(7), 3);
        Due.is("look 8", x.look(8), 2);
        Due.is("look 9", x.look(9), 1);
        Due.is("look 10", x.look(10), 4);
        Due.is("look 11", x.look(11), 4);
        Due.is("look 12", x.look(12), DryPlaces.NONE);
        Due.is("look -1", x.look(-1), DryPlaces.NONE);
    }
}
