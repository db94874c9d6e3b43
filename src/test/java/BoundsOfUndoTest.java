/** What Terms 4 and promises 29 and 30 say of bounds: at each bound and one beyond it on either side. */
public final class BoundsOfUndoTest {
    private static final int NONE = DryPlaces.NONE;

    public static void main(String[] args) {
        nothingYet();
        sixAreKept();
        sixDaysAreKept();
        oneKindAfterAnother();
        lastPlaceAndRoom();
        aDayIsOne();
        undoneOnce();
        stateAndBook();
        lawAndPassagesAndVouches();
        whatForgets();
        whatForgetsNothing();
        imageBefore();
        imageMoreThanOnce();
        imageTakenAnew();
        imageOfAllThatWasTold();
        imageWithoutTapeAndFault();
        imageOfNothing();
        imageOfAFullGallery();
        Due.close();
    }

    private static void nothingYet() {
        Due.says("29: false if there is nothing.");
        DryPlaces x = new DryPlaces();
        Due.is("undo", x.undo(), false);
        x.act(3, 0, 0);
        Due.is("a light that stays as it is can be undone, too", x.look(11), 1);
        Due.is("undo", x.undo(), true);
        Due.is("undo", x.undo(), false);
        Due.is("look(11)", x.look(11), 0);
    }

    private static void sixAreKept() {
        Due.says("Terms 4: UNDO: 6 are kept");
        for (int acts = 0; acts <= 14; acts++) {
            DryPlaces x = new DryPlaces();
            for (int i = 1; i <= acts; i++) {
                x.act(3, i % 6, i % 10);
                Due.is("what can be undone", x.look(11), Math.min(6, i));
            }
            int kept = Math.min(6, acts);
            for (int i = acts; i > acts - kept; i--) {
                Due.is("what can be undone", x.look(11), kept - (acts - i));
                Due.is("undo", x.undo(), true);
                Due.is("the light as it was", x.room(i % 6, 0), i > 6 ? (i - 6) % 10 : 0);
            }
            Due.is("what can be undone", x.look(11), 0);
            Due.is("no more", x.undo(), false);
        }
    }

    private static void sixDaysAreKept() {
        Due.says("Terms 4: UNDO: the latest DAY; 6 are kept");
        for (int n : new int[] {1, 5, 6, 7, 60}) {
            DryPlaces x = new DryPlaces();
            x.days(n);
            int kept = Math.min(6, n);
            Due.is("what can be undone of " + n, x.look(11), kept);
            for (int i = 0; i < kept; i++) {
                Due.is("undo", x.undo(), true);
                Due.is("day", x.look(4), n - i - 1);
            }
            Due.is("no more", x.undo(), false);
            Due.is("day", x.look(4), n - kept);
        }
    }

    private static void oneKindAfterAnother() {
        Due.says("Terms 4: UNDO: the latest DAY, BUYING, SELLING, HANGING, LIGHT, HOSING, WIPING not undone yet goes back");
        DryPlaces x = new DryPlaces();
        Due.place(x, 0, "##", "##");
        x.purse(50);
        x.act(0, 0, 0);
        x.act(2, 0, 3);
        x.act(3, 3, 4);
        x.act(4, 0, 1);
        x.act(5, 0, 0);
        x.act(1, 0, 0);
        Due.is("what can be undone", x.look(11), 6);
        Due.is("a selling", x.undo(), true);
        Due.is("owned", x.of(0, 2), 1);
        Due.is("room", x.of(0, 1), 3);
        Due.is("paid", x.of(0, 4), 20);
        Due.is("purse", x.look(1), 30);
        Due.is("a wiping", x.undo(), true);
        Due.is("row", x.of(0, 10), 3);
        Due.is("a hosing", x.undo(), true);
        Due.is("row", x.of(0, 11), 3);
        Due.is("hosed", x.of(0, 3), 0);
        Due.is("a light", x.undo(), true);
        Due.is("light", x.room(3, 0), 0);
        Due.is("a hanging", x.undo(), true);
        Due.is("room", x.of(0, 1), NONE);
        Due.is("a buying", x.undo(), true);
        Due.is("owned", x.of(0, 2), 0);
        Due.is("purse", x.look(1), 50);
        Due.is("paid", x.of(0, 4), 0);
        Due.is("no line", x.look(5), 0);
        Due.is("no more", x.undo(), false);
    }

    private static void lastPlaceAndRoom() {
        Due.says("Terms 4: UNDO, THE IMAGE, GOES (of the tenth PLACE and the sixth ROOM, too)");
        DryPlaces x = Due.wetPlaces(10);
        x.row(9, 7, 255);
        Due.tell(x, 0, "worth 7; creeps 0; comes year+light+paid;");
        x.purse(50);
        x.act(0, 9, 0);
        x.act(2, 9, 5);
        x.act(3, 5, 8);
        x.image(true);
        Due.is("in thought", x.goes(1, 1), 9 + 8 + 7);
        Due.is("dry in thought", x.goes(1, 2), 8);
        x.act(4, 9, 7);
        x.act(1, 9, 0);
        Due.is("undo", x.undo() && x.undo(), true);
        lastAsItWas(x);
        x.act(3, 5, 1);
        x.act(1, 9, 0);
        x.row(9, 7, 1);
        x.image(false);
        lastAsItWas(x);
    }

    private static void lastAsItWas(DryPlaces x) {
        Due.is("row", x.of(9, 17), 255);
        Due.is("room", x.of(9, 1), 5);
        Due.is("paid", x.of(9, 4), 7);
        Due.is("owned", x.of(9, 2), 1);
        Due.is("hosed", x.of(9, 3), 0);
        Due.is("light", x.room(5, 0), 8);
    }

    private static void aDayIsOne() {
        Due.says("Terms 4: UNDO: the latest DAY (with all of its DIARY)");
        DryPlaces x = new DryPlaces();
        Due.place(x, 0, "##");
        x.purse(10);
        Due.tell(x, 0, "creeps 1000; comes 3;");
        Due.tell(x, 2, "on 0 buy 0; on 0 hang 0 in 1; on 0 light 1 1; on 0 hose 0 7; on 1 sell 0;");
        Due.is("two days", x.days(2), 2);
        Due.is("what can be undone", x.look(11), 2);
        Due.is("undo", x.undo(), true);
        Due.is("day", x.look(4), 1);
        Due.is("owned", x.look(3), 1);
        Due.is("seen", x.look(2), 3);
        Due.is("undo", x.undo(), true);
        Due.is("day", x.look(4), 0);
        Due.is("owned", x.look(3), 0);
        Due.is("purse", x.look(1), 10);
        Due.is("seen", x.look(2), 0);
        Due.is("light", x.room(1, 0), 0);
        Due.is("hosed", x.of(0, 3), 0);
        Due.is("dry", x.shape(0, 0), 2);
        Due.is("no line", x.look(5), 0);
        Due.is("the diary does it again", x.days(2), 2);
        Due.is("lines", x.look(5), 6);
    }

    private static void undoneOnce() {
        Due.says("Terms 4: UNDO: not undone yet");
        DryPlaces x = new DryPlaces();
        x.act(3, 0, 1);
        x.act(3, 0, 2);
        x.undo();
        x.act(3, 0, 3);
        Due.is("what can be undone", x.look(11), 2);
        x.undo();
        Due.is("before the third", x.room(0, 0), 1);
        x.undo();
        Due.is("before the first", x.room(0, 0), 0);
        Due.is("no more", x.undo(), false);
        for (int i = 1; i <= 8; i++) {
            x.act(3, 0, i);
        }
        x.undo();
        x.undo();
        x.act(3, 0, 9);
        Due.is("five of six", x.look(11), 5);
        for (int due : new int[] {6, 5, 4, 3, 2}) {
            x.undo();
            Due.is("light", x.room(0, 0), due);
        }
        Due.is("no more", x.undo(), false);
    }

    private static void stateAndBook() {
        Due.says("Terms 4: UNDO: goes back (STATE, THE BOOK, too)");
        DryPlaces x = Due.shown("creeps 300; comes 1;", "########", "########", "########");
        x.state(2024);
        int[] states = new int[8];
        int[] lines = new int[8];
        for (int day = 0; day < 8; day++) {
            states[day] = x.look(6);
            lines[day] = x.look(5);
            x.days(1);
        }
        for (int day = 7; day >= 2; day--) {
            Due.is("undo", x.undo(), true);
            Due.is("STATE of day " + day, x.look(6), states[day]);
            Due.is("lines of day " + day, x.look(5), lines[day]);
            Due.is("no line more", x.book(lines[day], 0), NONE);
            Due.is("the last line's day", x.book(lines[day] - 1, 0), day - 1);
        }
        Due.is("STATE has gone on", states[3] != states[2], true);
        Due.is("no more", x.undo(), false);
    }

    private static void lawAndPassagesAndVouches() {
        Due.says("Terms 4: UNDO: whatever else is told but THE LAW, PASSAGES, VOUCHES .. forgets them");
        DryPlaces x = Due.wetPlaces(2);
        x.act(4, 0, 0);
        String[] texts = {"worth 8;", "room 0 room 1 long 5;", null, "place 0 by 1;"};
        for (int k = 0; k < 4; k++) {
            if (k != 2) {
                Due.good(x, k, texts[k], 1);
                Due.is("kept", x.look(11), 1);
                Due.good(x, k, "", 0);
                Due.is("kept", x.look(11), 1);
                Due.good(x, k, texts[k], 1);
            }
        }
        Due.is("undo", x.undo(), true);
        Due.is("the law stays", x.of(0, 5), 8);
        Due.is("passages stay", x.room(0, 11), 5);
        Due.is("vouches stay", x.vouched(0), 2);
    }

    private static void whatForgets() {
        Due.says("Terms 4: UNDO: whatever else is told .. forgets them");
        for (int kind = 0; kind < 9; kind++) {
            DryPlaces x = Due.wetPlaces(2);
            x.image(true);
            x.act(4, 0, 0);
            x.days(2);
            Due.is("kept", x.look(11), 3);
            switch (kind) {
                case 0 -> x.state(x.look(6));
                case 1 -> x.place(0);
                case 2 -> x.row(0, 0, 0);
                case 3 -> x.purse(0);
                case 4 -> Due.tell(x, 2, "");
                case 5 -> Due.tell(x, 2, "on 1 buy 1;");
                case 6 -> x.image(false);
                case 7 -> x.place(99);
                default -> x.purse(99999);
            }
            Due.is("forgotten by kind " + kind, x.look(11), 0);
            Due.is("undo", x.undo(), false);
            x.act(3, 0, 1);
            Due.is("what comes then is kept", x.look(11), 1);
        }
    }

    private static void whatForgetsNothing() {
        Due.says("Terms 4: UNDO: (the taking of THE IMAGE does not)");
        DryPlaces x = Due.wetPlaces(2);
        x.act(4, 0, 0);
        x.image(true);
        Due.is("the taking", x.look(11), 1);
        x.image(true);
        Due.is("the taking again", x.look(11), 1);
        x.feed(0, 0, 0, 0, 0);
        x.end(3);
        Due.is("the tape", x.look(11), 1);
        Due.is("a diary with a fault", x.text(2), NONE);
        Due.is("a diary with a fault", x.look(11), 1);
        Due.is("undo", x.undo(), true);
        Due.is("hosed", x.of(0, 3), 0);
    }

    private static void imageBefore() {
        Due.says("30: THE IMAGE .. gone back to (false): true; false if there is none.");
        DryPlaces x = new DryPlaces();
        Due.is("none", x.image(false), false);
        x.place(3);
        x.act(4, 0, 0);
        Due.is("none", x.image(false), false);
        Due.is("all stays", x.look(0) + 10 * x.look(5) + 100 * x.look(11), 111);
        Due.is("taken", x.image(true), true);
        Due.is("gone back", x.image(false), true);
        Due.is("all is as it was", x.look(0) + 10 * x.look(5) + 100 * x.look(11), 11);
    }

    private static void imageMoreThanOnce() {
        Due.says("Terms 4: THE IMAGE: gone back to it may be more than once");
        DryPlaces x = Due.wetPlaces(1);
        x.image(true);
        for (int i = 0; i < 4; i++) {
            x.act(4, 0, i);
            x.place(9);
            x.days(3);
            Due.is("gone back", x.image(false), true);
            Due.is("places", x.look(0), 1);
            Due.is("lines", x.look(5), 0);
            Due.is("day", x.look(4), 0);
            Due.is("hosed", x.of(0, 3), 0);
            Due.is("at once again", x.image(false), true);
        }
    }

    private static void imageTakenAnew() {
        Due.says("Terms 4: THE IMAGE: as it was when it was taken");
        DryPlaces x = new DryPlaces();
        x.image(true);
        x.purse(1);
        x.image(true);
        x.purse(2);
        x.image(false);
        Due.is("the latest", x.look(1), 1);
        x.purse(3);
        x.image(true);
        x.undo();
        x.purse(4);
        x.image(false);
        Due.is("the latest", x.look(1), 3);
    }

    private static void imageOfAllThatWasTold() {
        Due.says("Terms 4: THE IMAGE: all that is and was told");
        DryPlaces x = new DryPlaces();
        DryPlaces y = new DryPlaces();
        for (DryPlaces one : new DryPlaces[] {x, y}) {
            Due.place(one, 7, "###", "#.#", "###");
            Due.place(one, 8, "####");
            Due.tell(one, 0, "creeps 90*wet when day<3; worth dry+paid; comes 2 when light>0;");
            Due.tell(one, 1, "room 0 room 1 long 5; room 4 room 5 long 99;");
            Due.tell(one, 2, "on 2 light 1 3; on 5 hose 1 0;");
            Due.tell(one, 3, "place 1 by 0;");
            one.purse(100);
            one.state(-99);
            one.act(0, 0, 0);
            one.act(2, 0, 1);
            one.act(4, 1, 3);
            one.days(4);
            one.image(true);
        }
        x.place(1);
        x.row(0, 0, 0);
        x.row(1, 5, 255);
        Due.tell(x, 0, "worth 1;");
        Due.tell(x, 1, "room 2 room 3 long 1;");
        Due.tell(x, 2, "on 4 light 5 5;");
        Due.tell(x, 3, "place 0 by 1; place 2 by 1;");
        x.purse(5000);
        x.state(1);
        x.act(1, 0, 0);
        x.act(0, 2, 0);
        x.act(2, 2, 2);
        x.days(9);
        Due.is("gone back", x.image(false), true);
        y.state(y.look(6));
        String unlike = Answers.of(x).unlike(Answers.of(y));
        Due.is("alike" + (unlike == null ? "" : ", but " + unlike), unlike == null, true);
        Due.is("days go on alike", x.days(3), y.days(3));
        unlike = Answers.of(x).unlike(Answers.of(y));
        Due.is("alike" + (unlike == null ? "" : ", but " + unlike), unlike == null, true);
        Due.is("a new place is as new", x.place(1), 2);
        Due.is("dry", x.shape(2, 0), 0);
        Due.is("owned", x.of(2, 2), 0);
        Due.is("room", x.of(2, 1), NONE);
        Due.is("paid", x.of(2, 4), 0);
    }

    private static void imageWithoutTapeAndFault() {
        Due.says("Terms 4: THE IMAGE: all .. but the TAPE, fault() and what can be undone (nothing then)");
        DryPlaces x = Due.wetPlaces(1);
        Due.write(x, "worth 12; ");
        x.image(true);
        x.end(8);
        Due.is("gone back", x.image(false), true);
        Due.is("the tape has eight", x.end(9), false);
        x.end(0);
        Due.faulty(x, 0, "worth 1/0;", 2, 8);
        Due.is("gone back", x.image(false), true);
        Due.is("fault(0)", x.fault(0), 2);
        Due.is("fault(1)", x.fault(1), 8);
        Due.write(x, "worth 34;");
        x.act(3, 0, 1);
        Due.is("gone back", x.image(false), true);
        Due.is("nothing can be undone", x.look(11), 0);
        Due.is("undo", x.undo(), false);
        Due.is("the tape is told", x.text(0), 1);
        Due.is("worth", x.of(0, 5), 34);
        x.act(3, 0, 1);
        x.image(true);
        Due.is("the taking keeps", x.look(11), 1);
        x.undo();
        x.image(false);
        Due.is("light", x.room(0, 0), 1);
        Due.is("nothing can be undone", x.look(11), 0);
    }

    private static void imageOfNothing() {
        Due.says("Terms 4: THE IMAGE (of empty rooms)");
        DryPlaces x = new DryPlaces();
        x.image(true);
        for (int p = 0; p < 10; p++) {
            Due.place(x, p, "####");
        }
        Due.tell(x, 3, "place 9 by 8;");
        x.days(60);
        Due.is("gone back", x.image(false), true);
        for (int what = 0; what <= 11; what++) {
            Due.is("look(" + what + ")", x.look(what), 0);
        }
        Due.is("no place", x.of(0, 0), NONE - 1);
        Due.is("ten can be told again", x.place(5), 0);
        Due.is("all wet", x.shape(0, 0), 0);
        Due.is("nobody vouches", x.vouched(0), 0);
    }

    private static void imageOfAFullGallery() {
        Due.says("Terms 4: THE IMAGE (of ten places, a full book, full texts)");
        DryPlaces x = Due.wetPlaces(10);
        Due.tell(x, 0, "worth 9;".repeat(16));
        Due.tell(x, 3, "place 9 by 8;".repeat(16));
        for (int i = 0; i < 150; i++) {
            x.act(4, i % 10, i % 8);
        }
        x.image(true);
        Due.tell(x, 0, "");
        Due.tell(x, 3, "");
        for (int i = 0; i < 6; i++) {
            x.undo();
        }
        x.act(4, 9, 1);
        Due.is("gone back", x.image(false), true);
        Due.is("places", x.look(0), 10);
        Due.is("lines", x.look(5), 150);
        Due.is("the 145th line", x.book(144, 2) * 10 + x.book(144, 3), 144 % 10 * 10 + 144 % 8);
        Due.is("the 150th line", x.book(149, 2) * 10 + x.book(149, 3), 149 % 10 * 10 + 149 % 8);
        Due.is("law", x.look(7), 16);
        Due.is("worth", x.of(9, 5), 9);
        Due.is("vouches", x.look(10), 16);
        Due.is("vouched", x.vouched(9), 256);
    }
}
