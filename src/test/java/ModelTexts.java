import java.util.ArrayList;
import java.util.List;
import java.util.Map;
import java.util.regex.Matcher;
import java.util.regex.Pattern;

/** The four texts of the Model, as lists of lines; a new object for each telling. */
final class ModelTexts {
    interface Tree {
        int value(Map<String, Integer> known);
    }

    static final class Line {
        String word;
        Tree value;
        Tree when;
    }

    int[] lines = new int[4];
    List<Line> law = new ArrayList<>();
    List<int[]> passages = new ArrayList<>();
    List<int[]> diary = new ArrayList<>();
    List<int[]> vouches = new ArrayList<>();

    ModelTexts with(int k, ModelTexts other) {
        ModelTexts to = new ModelTexts();
        to.lines = lines.clone();
        to.lines[k] = other.lines[k];
        to.law = k == 0 ? other.law : law;
        to.passages = k == 1 ? other.passages : passages;
        to.diary = k == 2 ? other.diary : diary;
        to.vouches = k == 3 ? other.vouches : vouches;
        return to;
    }

    /** A fault, thrown to leave the grammar. */
    static final class Refusal extends RuntimeException {
        private static final long serialVersionUID = 1L;
        final int fault;

        Refusal(int fault) {
            this.fault = fault;
        }
    }

    static final class Reading {
        private static final Pattern TOKEN = Pattern.compile("[a-zA-Z]+|[0-9]+|(?s:.)");
        private static final List<String> UNITS = List.of("dry", "edges", "year", "light", "room", "hosed", "paid", "day", "wet");
        int fault;
        int faultAt;
        private final List<String> tokens = new ArrayList<>();
        private final List<Integer> at = new ArrayList<>();
        private final int places;
        private int next = 0;
        private int open = 0;

        Reading(String text, int places) {
            this.places = places;
            Matcher matcher = TOKEN.matcher(text);
            while (matcher.find()) {
                if (!matcher.group().equals(" ") && !matcher.group().equals("\n")) {
                    tokens.add(matcher.group());
                    at.add(matcher.start());
                }
            }
            tokens.add("");
            at.add(text.length());
        }

        ModelTexts read(int k) {
            ModelTexts to = new ModelTexts();
            try {
                while (!peek().isEmpty()) {
                    String word = peek();
                    boolean begins = k == 0 ? List.of("creeps", "worth", "comes").contains(word) : List.of("", "room", "on", "place").get(k).equals(word);
                    need(begins, 1);
                    need(to.lines[k] < 16, 3);
                    next++;
                    if (k == 0) {
                        to.law.add(law(word));
                    } else if (k == 1) {
                        to.passages.add(passage());
                    } else if (k == 2) {
                        to.diary.add(entry());
                    } else {
                        to.vouches.add(vouch());
                    }
                    take(";");
                    to.lines[k]++;
                }
            } catch (Refusal refusal) {
                fault = refusal.fault;
                faultAt = at.get(next);
                return null;
            }
            return to;
        }

        private String peek() {
            return tokens.get(next);
        }

        private void need(boolean good, int itsFault) {
            if (!good) {
                throw new Refusal(itsFault);
            }
        }

        private void take(String token) {
            need(peek().equals(token), 1);
            next++;
        }

        private boolean goesOn(String token) {
            if (!peek().equals(token)) {
                return false;
            }
            next++;
            return true;
        }

        private int number(int least, int most, int unlike) {
            need(peek().matches("[0-9]{1,4}"), 1);
            int value = Integer.parseInt(peek());
            need(value >= least && value <= most && value != unlike, 2);
            next++;
            return value;
        }

        private int[] passage() {
            int a = number(0, 5, -1);
            take("room");
            int b = number(0, 5, a);
            take("long");
            return new int[] {a, b, number(1, 99, -1)};
        }

        private int[] vouch() {
            int a = number(0, places - 1, -1);
            take("by");
            return new int[] {a, number(0, places - 1, a)};
        }

        private int[] entry() {
            int day = number(0, 999, -1);
            String word = peek();
            int what = List.of("buy", "sell", "hang", "light", "hose").indexOf(word);
            need(what >= 0, 1);
            next++;
            int who = number(0, what == 3 ? 5 : places - 1, -1);
            int v = 0;
            if (what == 2) {
                take("in");
                v = number(0, 5, -1);
            } else if (what == 3) {
                v = number(0, 9, -1);
            } else if (what == 4) {
                v = number(0, 7, -1);
            }
            return new int[] {day, what, who, v};
        }

        private Line law(String word) {
            Line line = new Line();
            line.word = word;
            line.value = sum();
            if (goesOn("when")) {
                line.when = either();
            }
            return line;
        }

        private Tree either() {
            Tree tree = both();
            while (goesOn("or")) {
                Tree a = tree;
                Tree b = both();
                tree = known -> a.value(known) != 0 || b.value(known) != 0 ? 1 : 0;
            }
            return tree;
        }

        private Tree both() {
            Tree tree = one();
            while (goesOn("and")) {
                Tree a = tree;
                Tree b = one();
                tree = known -> a.value(known) != 0 && b.value(known) != 0 ? 1 : 0;
            }
            return tree;
        }

        private Tree one() {
            boolean opens = peek().equals("(") || peek().equals("not");
            if (!opens) {
                return comparison();
            }
            need(open < 8, 3);
            open++;
            Tree tree;
            if (goesOn("(")) {
                tree = either();
                take(")");
            } else {
                next++;
                Tree a = one();
                tree = known -> a.value(known) != 0 ? 0 : 1;
            }
            open--;
            return tree;
        }

        private Tree comparison() {
            Tree a = sum();
            String sign = peek();
            need(List.of("<", "=", ">").contains(sign), 1);
            next++;
            Tree b = sum();
            return known -> {
                int order = Integer.compare(a.value(known), b.value(known));
                return order == "<=>".indexOf(sign) - 1 ? 1 : 0;
            };
        }

        private Tree sum() {
            Tree tree = product();
            while (peek().equals("+") || peek().equals("-")) {
                int factor = goesOn("+") ? 1 : -1;
                next += factor == 1 ? 0 : 1;
                Tree a = tree;
                Tree b = product();
                tree = known -> a.value(known) + factor * b.value(known);
            }
            return tree;
        }

        private Tree product() {
            Tree tree = unit();
            while (peek().equals("*") || peek().equals("/")) {
                Tree a = tree;
                if (goesOn("*")) {
                    Tree b = unit();
                    tree = known -> a.value(known) * b.value(known);
                } else {
                    next++;
                    int by = number(1, 9999, -1);
                    tree = known -> a.value(known) / by;
                }
            }
            return tree;
        }

        private Tree unit() {
            String word = peek();
            if (UNITS.contains(word)) {
                next++;
                return known -> known.get(word);
            }
            int value = number(0, 9999, -1);
            return known -> value;
        }
    }
}
