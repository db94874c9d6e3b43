/** What Terms 1 and promises 1 to 5, 8 to 11 and 31 say of bounds: at each bound and one beyond it on either side. */
public final class BoundsOfTellingTest {
    private static final int NONE = DryPlaces.NONE;
    private static final int LEAST = Integer.MIN_VALUE;
    private static final int MOST = Integer.MAX_VALUE;

    public static void main(String[] args) {
        emptyRooms();
        states();
        years();
        tenPlaces();
        rowsOfPlaces();
        rowsOfCells();
        purses();
        feeding();
        refusedFeeding();
        bytes();
        ending();
        endWithin();
        textNumbers();
        tapeIsEmptyThen();
        textStays();
        faults();
        looks();
        Due.close();
    }

    private static void emptyRooms() {
        Due.says("1: Empty rooms.");
        DryPlaces x = new DryPlaces();
        for (int what = 0; what <= 11; what++) {
            Due.is("look(" + what + ")", x.look(what), 0);
        }
        for (int room = 0; room < 6; room++) {
            Due.is("LIGHT (0 at first)", x.room(room, 0), 0);
        }
        Due.is("of", x.of(0, 0), NONE - 1);
        Due.is("book", x.book(0, 0), NONE);
        Due.is("tour", x.tour(0, 0), NONE);
        Due.is("game", x.game(0), NONE);
        Due.is("buys", x.buys(1, 0), 0);
        Due.is("goes", x.goes(60, 1), 0);
        Due.is("undo", x.undo(), false);
        Due.is("image(false)", x.image(false), false);
        Due.is("the tape", x.end(1), false);
        Due.is("another object is another gallery", x.place(3) + new DryPlaces().look(0), 0);
    }

    private static void states() {
        Due.says("2: STATE is told: what it was.");
        DryPlaces x = new DryPlaces();
        int was = 0;
        for (int v : new int[] {LEAST, LEAST + 1, -1, 0, 1, MOST - 1, MOST, MOST}) {
            Due.is("state(" + v + ")", x.state(v), was);
            Due.is("look(6)", x.look(6), v);
            was = v;
        }
    }

    private static void years() {
        Due.says("Terms 1: YEAR 0 .. 99");
        DryPlaces x = new DryPlaces();
        for (int year : new int[] {-1, 100, LEAST, MOST}) {
            Due.is("place(" + year + ")", x.place(year), NONE);
            Due.is("look(0)", x.look(0), 0);
        }
        int[] years = {0, 1, 98, 99};
        for (int i = 0; i < years.length; i++) {
            Due.is("place(" + years[i] + ")", x.place(years[i]), i);
            Due.is("its year", x.of(i, 0), years[i]);
        }
        Due.is("one that can't be between", x.place(100), NONE);
        Due.is("is no number lost", x.place(50), 4);
    }

    private static void tenPlaces() {
        Due.says("3: NONE if one can't be, or there are ten.");
        DryPlaces x = Due.wetPlaces(9);
        Due.is("nine", x.look(0), 9);
        Due.is("the ninth's number", x.of(8, 0), 8);
        Due.is("no tenth yet", x.of(9, 0), NONE - 1);
        Due.is("the tenth", x.place(77), 9);
        Due.is("all wet", x.shape(9, 0), 0);
        for (int year : new int[] {0, 99, 100, -1}) {
            Due.is("the eleventh", x.place(year), NONE);
            Due.is("ten", x.look(0), 10);
        }
        Due.is("the tenth stays", x.of(9, 0), 77);
        Due.is("no eleventh", x.of(10, 0), NONE - 1);
    }

    private static void rowsOfPlaces() {
        Due.says("4: false if one can't be (the PLACE)");
        DryPlaces x = new DryPlaces();
        Due.is("none told", x.row(0, 0, 1), false);
        for (int count = 1; count <= 10; count++) {
            x.place(0);
            Due.is("one below", x.row(-1, 0, 1), false);
            Due.is("one beyond", x.row(count, 0, 1), false);
            Due.is("the last", x.row(count - 1, 7, 128), true);
            Due.is("its row", x.of(count - 1, 17), 128);
        }
        Due.is("place LEAST", x.row(LEAST, 0, 1), false);
        Due.is("place MOST", x.row(MOST, 0, 1), false);
        Due.is("the first is as told", x.of(0, 10), 0);
        Due.is("the last is as told", x.of(9, 10), 0);
    }

    private static void rowsOfCells() {
        Due.says("4: false if one can't be (the row, its CELLS)");
        DryPlaces x = Due.wetPlaces(1);
        x.row(0, 0, 0x55);
        x.row(0, 7, 0xAA);
        for (int row : new int[] {-1, 8, LEAST, MOST}) {
            Due.is("row " + row, x.row(0, row, 255), false);
        }
        for (int dry : new int[] {-1, 256, LEAST, MOST}) {
            Due.is("dry " + dry, x.row(0, 0, dry), false);
            Due.is("dry " + dry, x.row(0, 7, dry), false);
        }
        Due.is("row 0 is as told", x.of(0, 10), 0x55);
        Due.is("row 7 is as told", x.of(0, 17), 0xAA);
        Due.is("no other", x.shape(0, 0), 8);
        for (int dry : new int[] {0, 1, 254, 255}) {
            Due.is("row 0, dry " + dry, x.row(0, 0, dry), true);
            Due.is("row 0", x.of(0, 10), dry);
            Due.is("row 7, dry " + dry, x.row(0, 7, dry), true);
            Due.is("row 7", x.of(0, 17), dry);
            Due.is("no other", x.shape(0, 0), 2 * Integer.bitCount(dry));
        }
        x.row(0, 0, 128);
        Due.is("bit c the column c: 7 is dry", x.creeps(0, 7), 40);
        Due.is("bit c the column c: 0 is wet", x.creeps(0, 0), NONE);
    }

    private static void purses() {
        Due.says("Terms 1: PURSE 0 .. 99999; 5: false if it can't be.");
        DryPlaces x = new DryPlaces();
        for (int v : new int[] {1, 99998, 99999, 0}) {
            Due.is("purse(" + v + ")", x.purse(v), true);
            for (int beyond : new int[] {-1, 100000, LEAST, MOST}) {
                Due.is("purse(" + beyond + ")", x.purse(beyond), false);
            }
            Due.is("look(1)", x.look(1), v);
        }
    }

    private static void feeding() {
        Due.says("8: NONE, and nothing comes, if there would be more than 400.");
        DryPlaces x = new DryPlaces();
        for (int i = 1; i <= 20; i++) {
            Due.is("feed", x.feed(LEAST, MOST, 0, -1, 1), 20 * i);
        }
        Due.is("420", x.feed(0, 0, 0, 0, 0), NONE);
        for (int length : new int[] {400, 399, 382, 381}) {
            Due.is("end", x.end(length), true);
            Due.is("above 400", x.feed(0, 0, 0, 0, 0), NONE);
            Due.is("not one byte came", x.end(length + 1), false);
        }
        x.end(380);
        Due.is("just 400", x.feed(0, 0, 0, 0, 0), 400);
        x.end(379);
        Due.is("399", x.feed(0, 0, 0, 0, 0), 399);
        x.end(0);
        Due.is("from none", x.feed(0, 0, 0, 0, 0), 20);
    }

    private static void refusedFeeding() {
        Due.says("8: nothing comes");
        DryPlaces x = Due.wetPlaces(1);
        Due.write(x, "worth 7;" + " ".repeat(373));
        Due.is("feed", x.feed(-1, -1, -1, -1, -1), NONE);
        Due.is("what stood there is the text", x.text(0), 1);
        Due.is("worth", x.of(0, 5), 7);
        Due.write(x, "worth 8;" + " ".repeat(392));
        Due.is("feed on a full tape", x.feed(0x776F7274, -1, -1, -1, -1), NONE);
        Due.is("what stood there is the text", x.text(0), 1);
        Due.is("worth", x.of(0, 5), 8);
    }

    private static void bytes() {
        Due.says("8: Twenty bytes come behind the TAPE, of each number the highest first");
        DryPlaces x = Due.wetPlaces(1);
        Due.is("worth 1234;", x.feed(0x776F7274, 0x68203132, 0x33343B20, 0x20202020, 0x2020200A), 20);
        Due.is("behind it", x.feed(0x636F6D65, 0x73203536, 0x3B202020, 0x20202020, 0x20202020), 40);
        Due.is("two lines", x.text(0), 2);
        Due.is("worth", x.of(0, 5), 1234);
        Due.is("comes", x.of(0, 6), 56);
        // a byte above 127 is one sign, not a sign below 0
        x.feed(0x776F7274, 0x68203180, 0x3B202020, 0x20202020, 0x20202020);
        Due.is("byte 128", x.text(0), NONE);
        Due.is("its place", x.fault(1), 7);
        x.feed(0xFF6F7274, 0, 0, 0, 0);
        Due.is("byte 255", x.text(0), NONE);
        Due.is("its place", x.fault(1), 0);
    }

    private static void ending() {
        Due.says("9: false, changing nothing, if it has not so many, or n is below 0.");
        DryPlaces x = Due.wetPlaces(1);
        Due.is("end(0) of none", x.end(0), true);
        Due.is("end(1) of none", x.end(1), false);
        Due.write(x, "worth 12;worth 3;xxxx");
        Due.is("it has 21", x.end(22), false);
        Due.is("end(21)", x.end(21), true);
        Due.is("end(20)", x.end(20), true);
        Due.is("end(21) again", x.end(21), false);
        for (int n : new int[] {-1, -20, LEAST, 400, 401, MOST}) {
            Due.is("end(" + n + ")", x.end(n), false);
        }
        Due.is("nothing changed", x.end(20), true);
        Due.is("end(9)", x.end(9), true);
        Due.is("its first n alone", x.text(0), 1);
        Due.is("worth", x.of(0, 5), 12);
        Due.write(x, "worth 3;");
        Due.is("end(0)", x.end(0), true);
        Due.is("none is left", x.text(0), 0);
        for (int i = 0; i < 20; i++) {
            x.feed(0, 0, 0, 0, 0);
        }
        Due.is("end(401)", x.end(401), false);
        Due.is("end(400)", x.end(400), true);
        Due.is("end(399)", x.end(399), true);
        Due.is("end(400) again", x.end(400), false);
    }

    /** Bytes that stood behind the end are no part of a word or a number that stands before it. */
    private static void endWithin() {
        Due.says("9: The TAPE has its first n bytes alone");
        DryPlaces x = Due.wetPlaces(1);
        Due.write(x, "worth 123456");
        x.end(10);
        Due.is("within a number", x.text(0), NONE);
        Due.is("its place", x.fault(1), 10);
        Due.write(x, "worth dryer;");
        x.end(9);
        Due.is("within a word", x.text(0), NONE);
        Due.is("its place", x.fault(1), 9);
        Due.write(x, "worth 1;      ;");
        x.end(12);
        Due.is("within blanks", x.text(0), 1);
        Due.is("a full tape that ends with a digit", Due.tell(x, 0, " ".repeat(390) + "worth 1234"), NONE);
        Due.is("its place", x.fault(1), 400);
        Due.is("a full tape that ends with a letter", Due.tell(x, 0, " ".repeat(391) + "worth dry"), NONE);
        Due.is("its place", x.fault(1), 400);
        Due.is("a full tape that ends with a blank", Due.tell(x, 0, " ".repeat(390) + "worth dry "), NONE);
        Due.is("its place", x.fault(1), 400);
        Due.is("a full tape that ends with a line", Due.tell(x, 0, " ".repeat(390) + "worth dry;"), 1);
    }

    private static void textNumbers() {
        Due.says("10: NONE: no such one (fault() tells 0)");
        String[] texts = {"worth 1;", "room 0 room 1 long 1;", "on 0 light 0 0;", "place 0 by 1;"};
        DryPlaces x = Due.wetPlaces(2);
        for (int k = 0; k < 4; k++) {
            Due.good(x, k, texts[k], 1);
        }
        for (int k : new int[] {-1, 4, LEAST, MOST}) {
            Due.faulty(x, 0, "x", 1, 0);
            for (String text : texts) {
                Due.is("text(" + k + ")", Due.tell(x, k, text), NONE);
                Due.is("fault(0)", x.fault(0), 0);
                Due.is("fault(1)", x.fault(1), NONE);
            }
        }
        for (int k = 0; k < 4; k++) {
            Due.is("text " + k + " stays", x.look(7 + k), 1);
        }
    }

    private static void tapeIsEmptyThen() {
        Due.says("10: The TAPE, empty then, is TEXT k");
        DryPlaces x = Due.wetPlaces(2);
        for (int k = 0; k < 4; k++) {
            for (String text : new String[] {"", " ", "x", "worth 1;"}) {
                Due.tell(x, k, text);
                Due.is("nothing is left", x.end(1), false);
                Due.is("none", x.end(0), true);
                Due.is("the next bytes are the first", x.feed(0, 0, 0, 0, 0), 20);
                x.end(0);
            }
        }
        Due.write(x, "worth 1;");
        Due.is("text 0", x.text(0), 1);
        Due.is("the empty tape is a text of no lines", x.text(0), 0);
        Due.is("look(7)", x.look(7), 0);
    }

    private static void textStays() {
        Due.says("10: or a FAULT (it stays as it was)");
        DryPlaces x = Due.wetPlaces(2);
        String[] good = {"worth 5; worth 6;", "room 0 room 1 long 4; room 2 room 1 long 4;", "on 0 light 3 2; on 0 light 4 2;",
            "place 0 by 1; place 1 by 0;"};
        String[] bad = {"worth 7; comes 8; worth", "room 0 room 1 long 1; room 0 room 0", "on 0 light 3 9; on 0 light 4", "place 1 by 0; place 1 by 1"};
        for (int k = 0; k < 4; k++) {
            Due.good(x, k, good[k], 2);
            Due.is("a fault", Due.tell(x, k, bad[k]), NONE);
            Due.is("two lines", x.look(7 + k), 2);
        }
        Due.is("worth", x.of(0, 5), 5);
        Due.is("comes", x.of(0, 6), 0);
        Due.is("passage", x.room(0, 11), 4);
        Due.is("passage", x.room(1, 12), 4);
        Due.is("vouched", x.vouched(0), 3);
        x.days(1);
        Due.is("light", x.room(3, 0), 2);
        Due.is("light", x.room(4, 0), 2);
    }

    private static void faults() {
        Due.says("11: Of the latest text() what 0 the FAULT (0 without one), 1 its place (NONE). NONE for another what.");
        DryPlaces x = Due.wetPlaces(1);
        for (int round = 0; round < 3; round++) {
            boolean isFaulty = round == 1;
            if (isFaulty) {
                Due.is("a fault", Due.tell(x, 0, "worth 1/0;"), NONE);
            }
            if (round == 2) {
                Due.is("without one", Due.tell(x, 1, ""), 0);
            }
            Due.is("fault(0)", x.fault(0), isFaulty ? 2 : 0);
            Due.is("fault(1)", x.fault(1), isFaulty ? 8 : NONE);
            for (int what : new int[] {-1, 2, LEAST, MOST}) {
                Due.is("fault(" + what + ")", x.fault(what), NONE);
            }
        }
        Due.is("at the tape's last byte", Due.tell(x, 0, " ".repeat(399) + "x"), NONE);
        Due.is("its place", x.fault(1), 399);
        Due.is("at the end of a full tape", Due.tell(x, 0, " ".repeat(395) + "worth"), NONE);
        Due.is("its place", x.fault(1), 400);
    }

    private static void looks() {
        Due.says("31: NONE for another what. (STATE as it is.)");
        DryPlaces x = Due.wetPlaces(3);
        for (int what : new int[] {-1, 12, LEAST, MOST}) {
            Due.is("look(" + what + ")", x.look(what), NONE);
        }
        x.state(-1);
        Due.is("look(6)", x.look(6), -1);
        x.state(-2);
        Due.is("look(6)", x.look(6), -2);
        Due.is("look(0)", x.look(0), 3);
        x.act(3, 0, 0);
        Due.is("look(11)", x.look(11), 1);
    }
}
