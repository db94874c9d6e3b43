import java.util.ArrayList;
import java.util.List;
import java.util.function.ToIntFunction;

/**
 * A call that is refused changes nothing: of two galleries that were told and did the same, one is asked for what can't
 * be; then both answer alike, also when all that can be undone has been undone, and when the tape is told.
 */
public final class RefusedTest {
    private static final int NONE = DryPlaces.NONE;
    private static final int LEAST = Integer.MIN_VALUE;
    private static final int MOST = Integer.MAX_VALUE;

    private final List<String> names = new ArrayList<>();
    private final List<ToIntFunction<DryPlaces>> calls = new ArrayList<>();
    private final List<Integer> due = new ArrayList<>();

    public static void main(String[] args) {
        RefusedTest test = new RefusedTest();
        test.tellings();
        test.acts();
        test.others();
        for (int i = 0; i < test.calls.size(); i++) {
            test.refused(i);
        }
        noSuchText();
        faultyTexts();
        noImage();
        nothingToUndo();
        thoughts();
        Due.close();
    }

    private void refuse(String name, int answer, ToIntFunction<DryPlaces> call) {
        names.add(name);
        calls.add(call);
        due.add(answer);
    }

    private static int number(boolean answer) {
        return answer ? 1 : 0;
    }

    /** Four places, two of them owned and shown, all texts told, seven acts and days since the latest telling, a tape of 381. */
    private static DryPlaces gallery() {
        DryPlaces x = new DryPlaces();
        Due.place(x, 11, "####", "####", "####");
        Due.place(x, 22, "##.##", "##.##");
        Due.place(x, 33, "#.#.#.#.");
        Due.place(x, 44);
        Due.tell(x, 0, "creeps 100*wet; worth dry*9+day; comes light+2;");
        Due.tell(x, 1, "room 0 room 1 long 5; room 1 room 2 long 6; room 2 room 3 long 7; room 3 room 4 long 8; room 4 room 5 long 9;");
        Due.tell(x, 3, "place 0 by 1; place 1 by 2;");
        Due.tell(x, 2, "on 3 buy 2; on 4 hang 2 in 3; on 5 hose 0 1;");
        x.purse(190);
        x.state(4321);
        x.image(true);
        x.act(0, 0, 0);
        x.act(2, 0, 1);
        x.act(0, 1, 0);
        x.act(2, 1, 4);
        x.act(3, 4, 6);
        x.days(2);
        Due.tell(x, 0, "creeps 110*wet; worth dry*8+day; comes light+1; worth");
        Due.write(x, "worth 77;" + " ".repeat(372));
        return x;
    }

    private void tellings() {
        for (int year : new int[] {-1, 100, LEAST, MOST}) {
            refuse("place(" + year + ")", NONE, x -> x.place(year));
        }
        for (int[] r : new int[][] {{-1, 0, 1}, {4, 0, 1}, {0, -1, 1}, {0, 8, 1}, {0, 0, -1}, {0, 0, 256}, {MOST, 0, 0}, {0, LEAST, 0}}) {
            refuse("row(" + r[0] + ", " + r[1] + ", " + r[2] + ")", 0, x -> number(x.row(r[0], r[1], r[2])));
        }
        for (int v : new int[] {-1, 100000, LEAST, MOST}) {
            refuse("purse(" + v + ")", 0, x -> number(x.purse(v)));
        }
        refuse("feed beyond 400", NONE, x -> x.feed(0x776F7274, 0x6820383B, 0, 0, 0));
        for (int n : new int[] {-1, 382, 400, 401, LEAST, MOST}) {
            refuse("end(" + n + ")", 0, x -> number(x.end(n)));
        }
    }

    private void acts() {
        // owned are 0 and 1; 2 is dearer than what the purse has
        for (int[] a : new int[][] {{-1, 0, 0}, {6, 0, 0}, {LEAST, 0, 0}, {MOST, 0, 0},
            {0, 0, 0}, {0, 1, 0}, {0, 2, 0}, {0, -1, 0}, {0, 4, 0}, {1, 2, 0}, {1, 3, 0}, {1, -1, 0}, {1, 4, 0},
            {2, 2, 0}, {2, 0, -1}, {2, 0, 6}, {2, -1, 0}, {2, 4, 0}, {3, -1, 0}, {3, 6, 0}, {3, 0, -1}, {3, 0, 10},
            {4, -1, 0}, {4, 4, 0}, {4, 0, -1}, {4, 0, 8}, {5, 2, 0}, {5, 0, -1}, {5, 0, 64}, {5, 0, 63}, {5, -1, 0}, {5, 4, 0}}) {
            refuse("act(" + a[0] + ", " + a[1] + ", " + a[2] + ")", 0, x -> number(x.act(a[0], a[1], a[2])));
        }
    }

    private void others() {
        for (int n : new int[] {-1, 0, 61, LEAST, MOST}) {
            refuse("days(" + n + ")", NONE, x -> x.days(n));
        }
        for (int n : new int[] {-1, 0, 61, LEAST, MOST}) {
            refuse("goes(" + n + ", 0)", NONE, x -> x.goes(n, 0));
        }
    }

    private void refused(int i) {
        Due.says("a refused call changes nothing: " + names.get(i));
        DryPlaces x = gallery();
        DryPlaces y = gallery();
        Due.is("the answer", calls.get(i).applyAsInt(x), due.get(i));
        alike(x, y);
        Due.is("the tape has 381", x.end(382), false);
        Due.is("the tape has 381", x.end(381), true);
        Due.is("the tape's text", x.text(0), y.text(0));
        alike(x, y);
        undoBoth(x, y, 6);
        Due.is("the image is as it was", number(x.image(false)), number(y.image(false)));
        alike(x, y);
    }

    private static void alike(DryPlaces x, DryPlaces y) {
        String unlike = Answers.of(x).unlike(Answers.of(y));
        Due.is("all answers are alike" + (unlike == null ? "" : ", but " + unlike), unlike == null, true);
    }

    private static void undoBoth(DryPlaces x, DryPlaces y, int times) {
        Due.is("what can be undone", x.look(11), times);
        for (int i = 0; i < times; i++) {
            Due.is("undo", x.undo(), true);
            Due.is("undo", y.undo(), true);
            alike(x, y);
        }
        Due.is("no more", x.undo(), false);
    }

    private static void noSuchText() {
        Due.says("10: NONE: no such one (fault() tells 0)");
        for (int k : new int[] {-1, 4, LEAST, MOST}) {
            DryPlaces x = gallery();
            DryPlaces y = gallery();
            Due.is("text(" + k + ")", x.text(k), NONE);
            Due.is("fault(0)", x.fault(0), 0);
            Due.is("fault(1)", x.fault(1), NONE);
            // the other one forgets its fault by a text that stays as it was
            y.end(0);
            Due.tell(y, 0, "creeps 100*wet; worth dry*9+day; comes light+2;");
            alike(x, y);
            undoBoth(x, y, 6);
        }
    }

    private static void faultyTexts() {
        Due.says("10: or a FAULT (it stays as it was)");
        for (int k = 0; k < 4; k++) {
            DryPlaces x = gallery();
            DryPlaces y = gallery();
            x.end(0);
            y.end(0);
            Due.faulty(x, k, "  x", 1, 2);
            Due.faulty(y, 0, "  x", 1, 2);
            alike(x, y);
            undoBoth(x, y, 6);
        }
    }

    private static void noImage() {
        Due.says("30: false if there is none.");
        DryPlaces x = Due.wetPlaces(2);
        DryPlaces y = Due.wetPlaces(2);
        for (int i = 0; i < 3; i++) {
            x.act(4, 1, i);
            y.act(4, 1, i);
        }
        Due.is("image(false)", x.image(false), false);
        Due.is("image(false)", x.image(false), false);
        alike(x, y);
        undoBoth(x, y, 3);
    }

    private static void nothingToUndo() {
        Due.says("29: false if there is nothing.");
        DryPlaces x = gallery();
        DryPlaces y = gallery();
        x.state(5);
        y.state(5);
        Due.is("undo", x.undo(), false);
        Due.is("undo", x.undo(), false);
        alike(x, y);
    }

    private static void thoughts() {
        Due.says("Terms 4: IN THOUGHT (nothing of it stays)");
        DryPlaces x = gallery();
        DryPlaces y = gallery();
        Answers.of(x);
        for (int what = -1; what < 30; what++) {
            for (int p = -1; p < 5; p++) {
                x.shape(p, what);
                x.square(p, what);
                x.sums(p, what);
                x.fit(p, 1, what);
                x.walk(p, 0, 3, what);
                x.turned(p, 0);
                x.lie(p, 0, 3);
                x.feet(p);
                x.tour(p, what);
            }
            x.goes(60, what);
            x.buys(9999, what);
            x.game(what);
            x.look(what);
            x.fault(what);
        }
        alike(x, y);
        undoBoth(x, y, 6);
    }
}
