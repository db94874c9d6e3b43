import java.util.ArrayList;
import java.util.List;

/** All that can be asked of a gallery without changing it, so that two galleries can be held against one another. */
final class Answers {
    private final List<String> calls = new ArrayList<>();
    private final List<Integer> answers = new ArrayList<>();

    private Answers() {
    }

    static Answers of(DryPlaces x) {
        Answers all = new Answers();
        for (int what = 0; what <= 11; what++) {
            all.add("look(" + what + ")", x.look(what));
        }
        all.add("fault(0)", x.fault(0));
        all.add("fault(1)", x.fault(1));
        for (int p = 0; p < x.look(0); p++) {
            all.addPlace(x, p);
        }
        for (int room = 0; room < 6; room++) {
            all.add("room(" + room + ", 0)", x.room(room, 0));
            all.add("tour(" + room + ", 0)", x.tour(room, 0));
            for (int to = 10; to < 16; to++) {
                all.add("room(" + room + ", " + to + ")", x.room(room, to));
            }
        }
        for (int i = 0; i < x.look(5); i++) {
            for (int what = 0; what < 4; what++) {
                all.add("book(" + i + ", " + what + ")", x.book(i, what));
            }
        }
        for (int what = 0; what < 3; what++) {
            all.add("goes(9, " + what + ")", x.goes(9, what));
        }
        all.add("buys(300, 1)", x.buys(300, 1));
        all.add("game(1)", x.game(1));
        return all;
    }

    private void addPlace(DryPlaces x, int p) {
        for (int what = 0; what < 18; what++) {
            add("of(" + p + ", " + what + ")", x.of(p, what));
        }
        for (int cell = 0; cell < 64; cell++) {
            add("creeps(" + p + ", " + cell + ")", x.creeps(p, cell));
        }
        add("vouched(" + p + ")", x.vouched(p));
    }

    private void add(String call, int answer) {
        calls.add(call);
        answers.add(answer);
    }

    /** The first answer that is not the other one's; null if all are alike. */
    String unlike(Answers other) {
        for (int i = 0; i < Math.min(calls.size(), other.calls.size()); i++) {
            if (!calls.get(i).equals(other.calls.get(i)) || !answers.get(i).equals(other.answers.get(i))) {
                return calls.get(i) + " is " + answers.get(i) + ", not as " + other.calls.get(i) + ", " + other.answers.get(i);
            }
        }
        return calls.size() == other.calls.size() ? null : calls.size() + " answers, not " + other.calls.size();
    }
}
