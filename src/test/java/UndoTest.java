/** Promises 29 and 30: undo, image. */
public final class UndoTest {
    public static void main(String[] args) {
        everyKind();
        sixAreKept();
        whatForgets();
        whatDoesNotForget();
        images();
        imageAndUndo();
        Due.close();
    }

    private static DryPlaces owner() {
        DryPlaces x = new DryPlaces();
        Due.place(x, 3, "########", "########");
        Due.place(x, 5, "###");
        x.purse(1000);
        return x;
    }

    private static void everyKind() {
        DryPlaces x = owner();
        Due.tell(x, 0, "creeps 500; comes 4;");
        x.state(77);
        x.act(0, 0, 0);
        x.act(2, 0, 2);
        x.act(3, 2, 6);
        x.act(4, 0, 1);
        x.act(5, 0, 3);
        x.days(1);
        Due.is("undo a day", x.undo(), true);
        Due.is("STATE", x.look(6), 77);
        Due.is("day", x.look(4), 0);
        Due.is("seen", x.look(2), 0);
        Due.is("purse", x.look(1), 917);
        Due.is("lines", x.look(5), 3);
        Due.is("dry", x.of(0, 10), 255 - 8);
        Due.is("undo a wiping", x.undo(), true);
        Due.is("dry", x.of(0, 10), 255);
        Due.is("undo a hosing", x.undo(), true);
        Due.is("hosed", x.of(0, 3), 0);
        Due.is("dry", x.of(0, 11), 255);
        Due.is("lines", x.look(5), 2);
        Due.is("undo a light", x.undo(), true);
        Due.is("light", x.room(2, 0), 0);
        Due.is("undo a hanging", x.undo(), true);
        Due.is("room", x.of(0, 1), DryPlaces.NONE);
        Due.is("undo a buying", x.undo(), true);
        Due.is("owned", x.of(0, 2), 0);
        Due.is("paid", x.of(0, 4), 0);
        Due.is("purse", x.look(1), 1000);
        Due.is("lines", x.look(5), 0);
        Due.is("no more", x.undo(), false);
        x.act(0, 0, 0);
        x.act(2, 0, 1);
        x.act(1, 0, 0);
        Due.is("undo a selling", x.undo(), true);
        Due.is("owned", x.of(0, 2), 1);
        Due.is("room", x.of(0, 1), 1);
        Due.is("paid", x.of(0, 4), 83);
        Due.is("purse", x.look(1), 917);
    }

    private static void sixAreKept() {
        DryPlaces x = owner();
        for (int i = 1; i <= 9; i++) {
            x.act(3, 0, i);
        }
        Due.is("kept", x.look(11), 6);
        for (int i = 8; i >= 3; i--) {
            Due.is("undo", x.undo(), true);
            Due.is("light", x.room(0, 0), i);
        }
        Due.is("a seventh", x.undo(), false);
        Due.is("light", x.room(0, 0), 3);
        x.days(60);
        Due.is("kept of sixty days", x.look(11), 6);
        x.undo();
        x.undo();
        Due.is("day", x.look(4), 58);
        x.act(3, 1, 1);
        x.days(2);
        Due.is("kept", x.look(11), 6);
        for (int i = 0; i < 6; i++) {
            x.undo();
        }
        Due.is("day", x.look(4), 55);
        Due.is("none left", x.look(11), 0);
    }

    private static void whatForgets() {
        for (int kind = 0; kind < 6; kind++) {
            DryPlaces x = owner();
            x.image(true);
            x.act(0, 0, 0);
            x.act(2, 0, 0);
            if (kind == 0) {
                x.state(0);
            } else if (kind == 1) {
                x.place(0);
            } else if (kind == 2) {
                x.row(1, 1, 1);
            } else if (kind == 3) {
                x.purse(5);
            } else if (kind == 4) {
                Due.tell(x, 2, "on 5 buy 0;");
            } else {
                x.image(false);
            }
            Due.is("forgotten by " + kind, x.look(11), 0);
            Due.is("undo after " + kind, x.undo(), false);
        }
    }

    private static void whatDoesNotForget() {
        DryPlaces x = owner();
        x.act(0, 0, 0);
        Due.tell(x, 0, "worth 3;");
        Due.tell(x, 1, "room 0 room 1 long 3;");
        Due.tell(x, 3, "place 0 by 1;");
        Due.is("the law, passages, vouches", x.look(11), 1);
        Due.tell(x, 2, "on on;");
        Due.is("a diary with a fault", x.look(11), 1);
        x.image(true);
        x.end(0);
        x.feed(1, 2, 3, 4, 5);
        x.goes(5, 0);
        x.place(100);
        x.row(0, 9, 9);
        x.purse(-1);
        x.act(0, 0, 0);
        x.days(0);
        x.text(9);
        Due.is("nothing was told", x.look(11), 1);
        Due.is("undo", x.undo(), true);
        Due.is("owned", x.look(3), 0);
        Due.is("the law stays", x.look(7), 1);
        Due.is("passages stay", x.room(1, 10), 3);
        Due.is("vouches stay", x.vouched(0), 2);
    }

    private static void images() {
        DryPlaces x = owner();
        Due.is("none", x.image(false), false);
        x.act(3, 1, 1);
        Due.is("none forgets nothing", x.look(11), 1);
        Due.tell(x, 0, "worth 7; creeps 0; comes 1;");
        Due.tell(x, 1, "room 0 room 1 long 3;");
        Due.tell(x, 2, "on 0 buy 0; on 1 hang 0 in 3;");
        Due.tell(x, 3, "place 0 by 1;");
        x.state(4);
        x.days(3);
        Due.is("taken", x.image(true), true);
        for (int again = 0; again < 2; again++) {
            change(x);
            Due.is("gone back", x.image(false), true);
            asTaken(x);
        }
    }

    private static void change(DryPlaces x) {
        x.place(44);
        x.row(0, 0, 0);
        x.purse(1);
        x.state(9);
        x.act(2, 0, 5);
        x.act(3, 3, 3);
        x.act(4, 0, 1);
        Due.tell(x, 0, "");
        Due.tell(x, 1, "");
        Due.tell(x, 2, "");
        Due.tell(x, 3, "");
        x.days(7);
        x.feed(0, 0, 0, 0, 0);
    }

    private static void asTaken(DryPlaces x) {
        Due.is("places", x.look(0), 2);
        Due.is("purse", x.look(1), 1000 - 7 + 2);
        Due.is("seen", x.look(2), 2);
        Due.is("owned", x.look(3), 1);
        Due.is("day", x.look(4), 3);
        Due.is("lines", x.look(5), 4);
        Due.is("the last line", x.book(3, 0), 2);
        Due.is("STATE", x.look(6), 4);
        Due.is("law", x.look(7), 3);
        Due.is("worth", x.of(0, 5), 7);
        Due.is("passages", x.room(1, 10), 3);
        Due.is("diary", x.look(9), 2);
        Due.is("vouches", x.vouched(0), 2);
        Due.is("row", x.of(0, 10), 255);
        Due.is("hosed", x.of(0, 3), 0);
        Due.is("room", x.of(0, 1), 3);
        Due.is("light", x.room(1, 0), 1);
        Due.is("light", x.room(3, 0), 0);
        Due.is("undoing", x.look(11), 0);
        Due.is("the tape is as it was", x.end(20), true);
        Due.is("the tape is as it was", x.end(21), false);
        x.end(0);
        Due.is("a new place is all wet", x.place(8), 2);
        Due.is("dry", x.shape(2, 0), 0);
        Due.is("room", x.of(2, 1), DryPlaces.NONE);
    }

    private static void imageAndUndo() {
        DryPlaces x = owner();
        x.act(0, 0, 0);
        x.act(0, 1, 0);
        Due.is("taken", x.image(true), true);
        Due.is("undo", x.undo(), true);
        Due.is("owned", x.look(3), 1);
        Due.tell(x, 0, "worth worth;");
        Due.is("back", x.image(false), true);
        Due.is("owned", x.look(3), 3);
        Due.is("fault stays", x.fault(0), 1);
        Due.is("its place stays", x.fault(1), 6);
        Due.is("undo", x.undo(), false);
        Due.is("the book's line", x.book(1, 2), 1);
        x.act(4, 0, 0);
        x.act(4, 1, 1);
        x.image(true);
        x.undo();
        x.undo();
        x.act(4, 0, 6);
        x.act(4, 0, 7);
        Due.is("the book as it is", x.book(3, 3), 7);
        Due.is("back", x.image(false), true);
        Due.is("the book as it was", x.book(2, 3), 0);
        Due.is("the book as it was", x.book(3, 3), 1);
        Due.is("the book as it was", x.book(3, 2), 1);
        x.act(1, 0, 0);
        Due.is("taken anew", x.image(true), true);
        x.act(1, 1, 0);
        Due.is("back", x.image(false), true);
        Due.is("owned", x.look(3), 2);
    }
}
