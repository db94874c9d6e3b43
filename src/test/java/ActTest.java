/** Promises 6, 12 and 15: act, of, book. */
public final class ActTest {
    public static void main(String[] args) {
        buying();
        selling();
        hanging();
        lighting();
        hosing();
        wiping();
        others();
        fullBook();
        Due.close();
    }

    private static void bookLine(DryPlaces x, int i, int day, int what, int which, int much) {
        Due.is("book(" + i + ", 0)", x.book(i, 0), day);
        Due.is("book(" + i + ", 1)", x.book(i, 1), what);
        Due.is("book(" + i + ", 2)", x.book(i, 2), which);
        Due.is("book(" + i + ", 3)", x.book(i, 3), much);
    }

    private static void buying() {
        DryPlaces x = new DryPlaces();
        Due.place(x, 4, "##");
        Due.place(x, 7, "###");
        x.purse(13);
        Due.is("one too dear", x.act(0, 0, 0), false);
        Due.is("nothing is noted", x.look(5), 0);
        Due.is("nothing can be undone", x.look(11), 0);
        x.purse(14);
        Due.is("just enough", x.act(0, 0, 99), true);
        Due.is("purse", x.look(1), 0);
        Due.is("paid", x.of(0, 4), 14);
        Due.is("owned", x.of(0, 2), 1);
        Due.is("owned ones", x.look(3), 1);
        Due.is("again", x.act(0, 0, 0), false);
        Due.is("no place -1", x.act(0, -1, 0), false);
        Due.is("no place 2", x.act(0, 2, 0), false);
        x.purse(99);
        x.days(3);
        Due.is("another", x.act(0, 1, 0), true);
        bookLine(x, 0, 0, 0, 0, 14);
        bookLine(x, 1, 3, 0, 1, 22);
        Due.is("owned ones", x.look(3), 3);
        Due.tell(x, 0, "worth 1;");
        Due.is("paid stays", x.of(1, 4), 22);
        Due.is("worth by the law", x.of(1, 5), 1);
    }

    private static void selling() {
        DryPlaces x = new DryPlaces();
        Due.place(x, 0, "####");
        Due.is("not owned", x.act(1, 0, 0), false);
        x.purse(20);
        x.act(0, 0, 0);
        x.act(2, 0, 4);
        Due.tell(x, 0, "worth paid*2+room;");
        Due.is("sold", x.act(1, 0, 0), true);
        Due.is("purse by what it was worth", x.look(1), 45);
        bookLine(x, 2, 0, 1, 0, 45);
        Due.is("paid", x.of(0, 4), 0);
        Due.is("room", x.of(0, 1), DryPlaces.NONE);
        Due.is("owned", x.of(0, 2), 0);
        Due.is("no more", x.act(1, 0, 0), false);
        Due.tell(x, 0, "worth 9999;");
        x.purse(99999);
        x.act(0, 0, 0);
        x.purse(95000);
        Due.is("sold dear", x.act(1, 0, 0), true);
        Due.is("a full purse", x.look(1), 99999);
        bookLine(x, 4, 0, 1, 0, 9999);
        Due.is("none such", x.act(1, 1, 0), false);
        Due.is("none such", x.act(1, -1, 0), false);
    }

    private static void hanging() {
        DryPlaces x = new DryPlaces();
        Due.place(x, 0, "#");
        Due.is("not owned", x.act(2, 0, 0), false);
        x.purse(5);
        x.act(0, 0, 0);
        Due.is("room -1", x.act(2, 0, -1), false);
        Due.is("room 6", x.act(2, 0, 6), false);
        Due.is("room", x.of(0, 1), DryPlaces.NONE);
        Due.is("hung", x.act(2, 0, 5), true);
        Due.is("room", x.of(0, 1), 5);
        Due.is("hung elsewhere", x.act(2, 0, 0), true);
        Due.is("hung there again", x.act(2, 0, 0), true);
        bookLine(x, 1, 0, 2, 0, 5);
        bookLine(x, 2, 0, 2, 0, 0);
        bookLine(x, 3, 0, 2, 0, 0);
        Due.is("no place", x.act(2, 1, 0), false);
    }

    private static void lighting() {
        DryPlaces x = new DryPlaces();
        Due.is("room -1", x.act(3, -1, 1), false);
        Due.is("room 6", x.act(3, 6, 1), false);
        Due.is("light -1", x.act(3, 0, -1), false);
        Due.is("light 10", x.act(3, 0, 10), false);
        Due.is("light 9", x.act(3, 5, 9), true);
        Due.is("room 5", x.room(5, 0), 9);
        Due.is("room 4", x.room(4, 0), 0);
        Due.is("light 0", x.act(3, 5, 0), true);
        Due.is("room 5", x.room(5, 0), 0);
        Due.is("not in the book", x.look(5), 0);
        Due.is("but can be undone", x.look(11), 2);
    }

    private static void hosing() {
        DryPlaces x = new DryPlaces();
        Due.place(x, 0, "########", "########", "########");
        Due.is("row -1", x.act(4, 0, -1), false);
        Due.is("row 8", x.act(4, 0, 8), false);
        Due.is("no place", x.act(4, 1, 0), false);
        Due.is("hosed before", x.of(0, 3), 0);
        Due.is("hosed though not owned", x.act(4, 0, 1), true);
        Due.is("hosed", x.of(0, 3), 1);
        Due.is("row 0", x.of(0, 10), 255);
        Due.is("row 1", x.of(0, 11), 0);
        Due.is("row 2", x.of(0, 12), 255);
        Due.is("hosed again", x.act(4, 0, 7), true);
        bookLine(x, 0, 0, 3, 0, 1);
        bookLine(x, 1, 0, 3, 0, 7);
    }

    private static void wiping() {
        DryPlaces x = new DryPlaces();
        Due.place(x, 0, "", "", "", "", "", "", "", ".......#");
        Due.is("not owned", x.act(5, 0, 63), false);
        x.purse(5);
        x.act(0, 0, 0);
        Due.is("cell -1", x.act(5, 0, -1), false);
        Due.is("cell 64", x.act(5, 0, 64), false);
        Due.is("a wet one", x.act(5, 0, 62), false);
        Due.is("wiped", x.act(5, 0, 63), true);
        Due.is("row 7", x.of(0, 17), 0);
        Due.is("not in the book", x.look(5), 1);
        Due.is("wet now", x.act(5, 0, 63), false);
        Due.is("no place", x.act(5, 1, 63), false);
    }

    private static void others() {
        DryPlaces x = new DryPlaces();
        Due.place(x, 0, "#");
        x.purse(5);
        x.act(0, 0, 0);
        Due.is("act 6", x.act(6, 0, 0), false);
        Due.is("act -1", x.act(-1, 0, 0), false);
        Due.is("of -1", x.of(0, -1), -2);
        Due.is("of 7", x.of(0, 7), -2);
        Due.is("of 9", x.of(0, 9), -2);
        Due.is("of 18", x.of(0, 18), -2);
        Due.is("of no place", x.of(1, 0), -2);
        Due.is("of place -1", x.of(-1, 0), -2);
        Due.is("book(0, 4)", x.book(0, 4), DryPlaces.NONE);
        Due.is("book(0, -1)", x.book(0, -1), DryPlaces.NONE);
        Due.is("book(1, 0)", x.book(1, 0), DryPlaces.NONE);
        Due.is("book(-1, 0)", x.book(-1, 0), DryPlaces.NONE);
    }

    private static void fullBook() {
        DryPlaces x = new DryPlaces();
        x.place(0);
        for (int i = 0; i < 155; i++) {
            Due.is("hosed", x.act(4, 0, i % 8), true);
        }
        Due.is("lines", x.look(5), 150);
        Due.is("the last", x.book(149, 3), 149 % 8);
        Due.is("no more", x.book(150, 0), DryPlaces.NONE);
        x.undo();
        Due.is("lines after an undoing beyond", x.look(5), 150);
        for (int i = 0; i < 5; i++) {
            x.undo();
        }
        Due.is("lines after six", x.look(5), 149);
    }
}
