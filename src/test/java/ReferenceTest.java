import java.util.ArrayList;
import java.util.List;

// Long runs of calls, right and wrong ones mixed, against a second and slower telling of the
// document that keeps nothing but the deal and the cards played, and works all else out anew.
public final class ReferenceTest {
    private static final int RUNS = 150;
    private static final int CALLS = 512;

    private static final class Reference {
        private final int[] holder = new int[12];
        private final List<Integer> history = new ArrayList<>();
        private boolean on = false;
        private int leader = 0;
        private int trump = -1;

        private int turn;
        private int taken0;
        private int taken1;
        private final List<Integer> trick = new ArrayList<>();
        private int top;

        Reference() {
            clear();
        }

        void clear() {
            java.util.Arrays.fill(holder, -1);
            on = false;
            history.clear();
        }

        int dealtTo(int p) {
            int cards = 0;
            for (int h : holder) {
                cards += h == p ? 1 : 0;
            }
            return cards;
        }

        int deal(int c, int p) {
            if (c < 0 || c > 11 || p < -1 || p > 3) {
                return -1;
            }
            if (p != -1 && holder[c] != p && dealtTo(p) == 3) {
                return -2;
            }
            on = false;
            history.clear();
            holder[c] = p;
            return 12 - dealtTo(-1);
        }

        int hand(int p) {
            if (p < 0 || p > 3) {
                return -1;
            }
            int set = 0;
            for (int c = 0; c < 12; c++) {
                if (holder[c] == p && !history.contains(c)) {
                    set += 1 << c;
                }
            }
            return set;
        }

        int start(int leader, int trump) {
            if (leader < 0 || leader > 3 || trump < -1 || trump > 2) {
                return -1;
            }
            int n = dealtTo(0);
            if (n == 0 || dealtTo(1) != n || dealtTo(2) != n || dealtTo(3) != n) {
                return -4;
            }
            on = true;
            history.clear();
            this.leader = leader;
            this.trump = trump;
            return n;
        }

        // Strength of a card in a trick: trumps above all, then the led suit, the rest nothing.
        int strength(int c, int led) {
            if (c / 4 == trump) {
                return 20 + c % 4;
            }
            return c / 4 == led ? 10 + c % 4 : 0;
        }

        void replay() {
            turn = leader;
            taken0 = 0;
            taken1 = 0;
            trick.clear();
            for (int c : history) {
                if (trick.isEmpty() || strength(c, trick.get(0) / 4) > strength(topCard(), trick.get(0) / 4)) {
                    top = turn;
                }
                trick.add(c);
                turn = (turn + 1) % 4;
                if (trick.size() == 4) {
                    trick.clear();
                    turn = top;
                    if (top == 0 || top == 2) {
                        taken0++;
                    } else {
                        taken1++;
                    }
                }
            }
        }

        int topCard() {
            for (int c : trick) {
                if (holder[c] == top) {
                    return c;
                }
            }
            throw new IllegalStateException();
        }

        List<Integer> choices() {
            replay();
            List<Integer> all = new ArrayList<>();
            List<Integer> following = new ArrayList<>();
            for (int c = 0; c < 12; c++) {
                if (holder[c] == turn && !history.contains(c)) {
                    all.add(c);
                    if (!trick.isEmpty() && trick.get(0) / 4 == c / 4) {
                        following.add(c);
                    }
                }
            }
            return following.isEmpty() ? all : following;
        }

        int toPlay() {
            if (!on) {
                return -3;
            }
            return choices().isEmpty() ? -4 : turn;
        }

        int legal() {
            if (!on) {
                return -3;
            }
            int set = 0;
            for (int c : choices()) {
                set += 1 << c;
            }
            return set;
        }

        int play(int c) {
            if (!on) {
                return -3;
            }
            if (!choices().contains(c)) {
                return -4;
            }
            int cards = trick.size() + 1;
            history.add(c);
            return cards;
        }

        int undo() {
            if (!on) {
                return -3;
            }
            return history.isEmpty() ? -4 : history.remove(history.size() - 1);
        }

        int won(int s) {
            if (s != 0 && s != 1) {
                return -1;
            }
            if (!on) {
                return -3;
            }
            replay();
            return s == 0 ? taken0 : taken1;
        }

        int winning() {
            if (!on) {
                return -3;
            }
            replay();
            return trick.isEmpty() ? -4 : top;
        }

        int value() {
            if (!on) {
                return -3;
            }
            List<Integer> choices = choices();
            if (choices.isEmpty()) {
                return taken0;
            }
            boolean side0 = turn % 2 == 0;
            int value = side0 ? Integer.MIN_VALUE : Integer.MAX_VALUE;
            for (int c : choices) {
                int then = valueWith(c);
                value = side0 ? Math.max(value, then) : Math.min(value, then);
            }
            return value;
        }

        int valueWith(int c) {
            history.add(c);
            int then = value();
            history.remove(history.size() - 1);
            return then;
        }

        int after(int c) {
            if (!on) {
                return -3;
            }
            return choices().contains(c) ? valueWith(c) : -4;
        }

        int best() {
            if (!on) {
                return -3;
            }
            int value = value();
            for (int c : choices()) {
                if (valueWith(c) == value) {
                    return c;
                }
            }
            return -4;
        }

        int least() {
            if (!on) {
                return -3;
            }
            List<Integer> choices = choices();
            int least = choices.isEmpty() ? taken0 : Integer.MAX_VALUE;
            for (int c : choices) {
                history.add(c);
                least = Math.min(least, least());
                history.remove(history.size() - 1);
            }
            return least;
        }

        int courses() {
            if (!on) {
                return -3;
            }
            List<Integer> choices = choices();
            int ways = choices.isEmpty() ? 1 : 0;
            for (int c : choices) {
                history.add(c);
                ways += courses();
                history.remove(history.size() - 1);
            }
            return ways;
        }
    }

    private static int wrong = 0;
    private static long seed = 20261115L;

    // Fixed numbers that look mixed: every run of this test makes the same calls.
    private static int pick(int n) {
        seed = seed * 6364136223846793005L + 1442695040888963407L;
        return (int) ((seed >>> 33) % n);
    }

    private static int mostly(int from, int to) {
        if (pick(25) != 0) {
            return from + pick(to - from + 1);
        }
        int[] odd = {from - 1, to + 1, from + 32, to + 32, -33, 99, Integer.MIN_VALUE, Integer.MAX_VALUE};
        return odd[pick(odd.length)];
    }

    private static void due(int run, int number, String call, int got, int want) {
        if (got != want && ++wrong <= 20) {
            System.out.println("run " + run + ", call " + number + ": " + call + " answered " + got + ", due is " + want);
        }
    }

    // A deal that play can start from, as chance alone seldom makes one.
    private static int dealEvenly(int run, int number, OpenTricks x, Reference r) {
        int each = 1 + pick(3);
        int[] cards = new int[12];
        for (int i = 0; i < 12; i++) {
            int j = pick(i + 1);
            cards[i] = cards[j];
            cards[j] = i;
        }
        x.clear();
        r.clear();
        for (int i = 0; i < 4 * each; i++) {
            due(run, number + i, "deal", x.deal(cards[i], i % 4), r.deal(cards[i], i % 4));
        }
        int leader = pick(4);
        int trump = pick(4) - 1;
        due(run, number + 4 * each, "start", x.start(leader, trump), r.start(leader, trump));
        return 4 * each + 2;
    }

    private static int someCard(Reference r) {
        List<Integer> choices = r.on ? r.choices() : new ArrayList<>();
        return choices.isEmpty() || pick(6) == 0 ? mostly(0, 11) : choices.get(pick(choices.size()));
    }

    private static void change(int run, int number, OpenTricks x, Reference r) {
        int kind = pick(100);
        if (kind < 70) {
            int c = someCard(r);
            due(run, number, "play(" + c + ")", x.play(c), r.play(c));
        } else if (kind < 88) {
            due(run, number, "undo()", x.undo(), r.undo());
        } else if (kind < 93) {
            int leader = mostly(0, 3);
            int trump = mostly(-1, 2);
            due(run, number, "start(" + leader + ", " + trump + ")", x.start(leader, trump), r.start(leader, trump));
        } else if (kind < 99) {
            int c = mostly(0, 11);
            int p = mostly(-1, 3);
            due(run, number, "deal(" + c + ", " + p + ")", x.deal(c, p), r.deal(c, p));
        } else {
            x.clear();
            r.clear();
        }
    }

    private static void ask(int run, int number, OpenTricks x, Reference r) {
        int p = mostly(0, 3);
        int s = mostly(0, 1);
        switch (pick(10)) {
            case 0 -> due(run, number, "hand(" + p + ")", x.hand(p), r.hand(p));
            case 1 -> due(run, number, "toPlay()", x.toPlay(), r.toPlay());
            case 2 -> due(run, number, "legal()", x.legal(), r.legal());
            case 3 -> due(run, number, "won(" + s + ")", x.won(s), r.won(s));
            case 4 -> due(run, number, "winning()", x.winning(), r.winning());
            case 5 -> due(run, number, "value()", x.value(), r.value());
            case 6 -> {
                int c = someCard(r);
                due(run, number, "after(" + c + ")", x.after(c), r.after(c));
            }
            case 7 -> due(run, number, "best()", x.best(), r.best());
            case 8 -> due(run, number, "least()", x.least(), r.least());
            default -> due(run, number, "courses()", x.courses(), r.courses());
        }
    }

    public static void main(String[] args) {
        for (int run = 1; run <= RUNS; run++) {
            OpenTricks x = new OpenTricks();
            Reference r = new Reference();
            int calls = 0;
            while (calls < CALLS) {
                if (calls < CALLS - 20 && pick(r.on ? 60 : 8) == 0) {
                    calls += dealEvenly(run, calls + 1, x, r);
                } else if (pick(2) == 0) {
                    change(run, ++calls, x, r);
                } else {
                    ask(run, ++calls, x, r);
                }
            }
        }
        System.out.println(wrong == 0 ? "all answers are as due" : wrong + " answers are not as due");
        if (wrong != 0) {
            System.exit(1);
        }
    }
}
