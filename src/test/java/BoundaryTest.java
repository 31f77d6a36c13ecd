import java.util.ArrayList;
import java.util.List;
import java.util.function.Supplier;
import java.util.function.ToIntFunction;

// One test for each sentence of the document that names a boundary case, in the document's order.
public final class BoundaryTest {
    private static final int BAD_ARG = -1;
    private static final int FULL = -2;
    private static final int OFF = -3;
    private static final int NONE = -4;
    private static final int MIN = Integer.MIN_VALUE;
    private static final int MAX = Integer.MAX_VALUE;
    private static final int CALLS_MOST = 512;

    // A shift by c wraps round at 32, so numbers that look like cards then are among these.
    private static final int[] EDGES = {
        MIN, MIN + 1, MIN + 3, -65, -33, -32, -31, -13, -12, -5, -4, -3, -2, -1, 0, 1, 2, 3, 4, 5,
        7, 8, 10, 11, 12, 13, 15, 16, 31, 32, 33, 43, 44, 64, 255, 256, MAX - 1, MAX
    };

    // One card each: the leader's suit is followed by player 1 alone.
    private static final int[][] ONE = {{1}, {2}, {4}, {8}};
    // Two cards each; four cards are held by nobody.
    private static final int[][] TWO = {{0, 4}, {2, 7}, {1, 3}, {5, 8}};
    // All twelve cards; every player must sometimes follow and is sometimes free.
    private static final int[][] MIXED = {{0, 1, 9}, {4, 5, 10}, {2, 6, 11}, {3, 7, 8}};

    private static int wrong = 0;
    private static String sentence = "";

    private static void fault(String what) {
        wrong++;
        if (wrong <= 60) {
            System.out.println("\"" + sentence + "\": " + what);
        }
    }

    private static void test(String text, Runnable check) {
        sentence = text;
        try {
            check.run();
        } catch (RuntimeException e) {
            fault("threw " + e);
        }
    }

    // A run of calls on a new object: each call is made with the answer that is due.
    private static final class Run {
        private final OpenTricks x = new OpenTricks();
        private final StringBuilder calls = new StringBuilder();
        private int made = 0;

        private Run due(String call, int got, int want) {
            made++;
            if (made > CALLS_MOST) {
                fault("this test makes more than " + CALLS_MOST + " calls");
            }
            calls.append(call).append(' ');
            if (got != want) {
                fault(calls + "answered " + got + ", due is " + want);
            }
            return this;
        }

        Run deal(int c, int p, int want) {
            return due("deal(" + c + "," + p + ")", x.deal(c, p), want);
        }

        Run deal(int[][] hands) {
            int held = 0;
            for (int p = 0; p < 4; p++) {
                for (int c : hands[p]) {
                    held++;
                    deal(c, p, held);
                }
            }
            return this;
        }

        Run clear() {
            x.clear();
            return due("clear()", 0, 0);
        }

        Run hand(int p, int want) {
            return due("hand(" + p + ")", x.hand(p), want);
        }

        Run hands(int... want) {
            for (int p = 0; p < 4; p++) {
                hand(p, want[p]);
            }
            return this;
        }

        Run hands(int[][] want) {
            return hands(set(want[0]), set(want[1]), set(want[2]), set(want[3]));
        }

        Run start(int leader, int trump, int want) {
            return due("start(" + leader + "," + trump + ")", x.start(leader, trump), want);
        }

        Run toPlay(int want) {
            return due("toPlay()", x.toPlay(), want);
        }

        Run legal(int want) {
            return due("legal()", x.legal(), want);
        }

        Run play(int c, int want) {
            return due("play(" + c + ")", x.play(c), want);
        }

        // Right cards, from the beginning of a trick on.
        Run plays(int... cards) {
            for (int i = 0; i < cards.length; i++) {
                play(cards[i], i % 4 + 1);
            }
            return this;
        }

        Run undo(int want) {
            return due("undo()", x.undo(), want);
        }

        Run won(int s, int want) {
            return due("won(" + s + ")", x.won(s), want);
        }

        Run winning(int want) {
            return due("winning()", x.winning(), want);
        }

        Run value(int want) {
            return due("value()", x.value(), want);
        }

        Run after(int c, int want) {
            return due("after(" + c + ")", x.after(c), want);
        }

        Run best(int want) {
            return due("best()", x.best(), want);
        }

        Run least(int want) {
            return due("least()", x.least(), want);
        }

        Run courses(int want) {
            return due("courses()", x.courses(), want);
        }

        Run off() {
            toPlay(OFF).legal(OFF).play(0, OFF).undo(OFF).won(0, OFF).won(1, OFF).winning(OFF);
            return value(OFF).after(0, OFF).best(OFF).least(OFF).courses(OFF);
        }
    }

    private static int set(int... cards) {
        int set = 0;
        for (int c : cards) {
            set += 1 << c;
        }
        return set;
    }

    private static boolean in(int n, int from, int to) {
        return n >= from && n <= to;
    }

    private static Run dealt(int[][] hands) {
        return new Run().deal(hands);
    }

    private static Run started(int[][] hands, int leader, int trump) {
        return dealt(hands).start(leader, trump, hands[0].length);
    }

    // A course of TWO from leader 2 without trump: side 0 wins both tricks.
    private static final int[] TWO_COURSE = {3, 8, 0, 2, 1, 5, 4, 7};
    private static final int[] TWO_TURNS = {2, 3, 0, 1, 2, 3, 0, 1};
    // A course of MIXED from leader 3 with trump 1: the tricks go to players 1, 2 and 3.
    private static final int[] MIXED_COURSE = {3, 0, 4, 2, 10, 11, 8, 9, 6, 7, 1, 5};
    private static final int[] MIXED_TURNS = {3, 0, 1, 2, 1, 2, 3, 0, 2, 3, 0, 1};

    private static Run mixed(int cards) {
        Run run = started(MIXED, 3, 1);
        for (int i = 0; i < cards; i++) {
            run.play(MIXED_COURSE[i], i % 4 + 1);
        }
        return run;
    }

    // What is still held after so many cards of a course.
    private static int[] left(int[][] hands, int[] course, int[] turns, int cards) {
        int[] left = new int[4];
        for (int p = 0; p < 4; p++) {
            left[p] = set(hands[p]);
        }
        for (int i = 0; i < cards; i++) {
            left[turns[i]] -= 1 << course[i];
        }
        return left;
    }

    public static void main(String[] args) {
        whatItIs();
        terms();
        newObject();
        deal();
        clear();
        hand();
        start();
        toPlay();
        legal();
        play();
        undo();
        won();
        winning();
        value();
        after();
        best();
        least();
        courses();
        orderAndLimits();
        System.out.println(wrong == 0 ? "all answers are as due" : wrong + " answers are not as due");
        if (wrong != 0) {
            System.exit(1);
        }
    }

    // ---- What it is ----

    private static void whatItIs() {
        test("An object is used for at most 512 calls: plays and undos", () -> {
            Run run = started(MIXED, 3, 1);
            while (run.made + 24 <= CALLS_MOST - 4) {
                run.plays(MIXED_COURSE);
                for (int i = 11; i >= 0; i--) {
                    run.undo(MIXED_COURSE[i]);
                }
            }
            while (run.made < CALLS_MOST - 4) {
                run.undo(NONE);
            }
            run.toPlay(3).legal(set(3, 7, 8)).hand(0, set(0, 1, 9)).play(3, 1);
        });
        test("An object is used for at most 512 calls: searches", () -> {
            Run run = started(TWO, 2, -1);
            while (run.made + 5 < CALLS_MOST) {
                run.value(2).after(1, 0).best(3).least(0).courses(4);
            }
            while (run.made < CALLS_MOST) {
                run.value(2);
            }
        });
        test("An object is used for at most 512 calls: deals and starts", () -> {
            Run run = new Run();
            while (run.made + 13 <= CALLS_MOST - 2) {
                run.deal(ONE).start(0, 2, 1).plays(1, 2, 4).deal(3, -1, 4).clear().hand(0, 0).toPlay(OFF);
            }
            while (run.made < CALLS_MOST - 1) {
                run.deal(11, 3, 1);
            }
            run.hand(3, 2048);
        });
        test("The constants", () -> {
            Run run = new Run();
            run.due("BAD_ARG", OpenTricks.BAD_ARG, -1).due("FULL", OpenTricks.FULL, -2);
            run.due("OFF", OpenTricks.OFF, -3).due("NONE", OpenTricks.NONE, -4);
        });
    }

    // ---- Terms ----

    private static void terms() {
        test("CARDS: suit card / 4, rounded down", BoundaryTest::suitEnds);
        test("CARDS: height card % 4", BoundaryTest::heights);
        test("0 and 2 are SIDE 0, 1 and 3 are SIDE 1", BoundaryTest::sides);
        test("Player p + 1 comes behind player p, and 0 behind 3", BoundaryTest::turnGoesRound);
        test("Before play each card is held by a player or by nobody", BoundaryTest::oneHolder);
        test("PLAY is on from the call start on until the call deal or clear", BoundaryTest::playStaysOn);
        test("TRICKS are played as long as players hold cards", BoundaryTest::lastTrick);
        test("each player in turn plays one card that they hold", BoundaryTest::onlyOwnCards);
        test("a player who holds a card of the led suit must play one of that suit", BoundaryTest::following);
        test("the trick is WON by the player of the highest card", BoundaryTest::everyTrick);
        test("this player leads the next trick", BoundaryTest::winnerLeads);
        test("The RESULT is the number of tricks that side 0 wins, all together", BoundaryTest::allTogether);
        test("A set of cards is 2 to the power c added up", BoundaryTest::sets);
        test("No call ever throws. A refused call changes nothing.", BoundaryTest::refusedCallsAndQuestions);
    }

    private static void suitEnds() {
        for (int last : new int[] {3, 7}) {
            int next = last + 1;
            int[][] hands = {{last - 1, next + 1}, {last, next}, {last - 2, next + 2}, {last - 3, next + 3}};
            started(hands, 0, -1).play(last - 1, 1).legal(set(last)).play(next, NONE).play(last, 2);
            started(hands, 0, -1).play(next + 1, 1).legal(set(next)).play(last, NONE).play(next, 2);
        }
        // The last card of the whole pack and the first of it are of different suits.
        int[][] ends = {{1, 9}, {0, 11}, {2, 4}, {3, 5}};
        started(ends, 0, -1).play(1, 1).legal(set(0)).play(11, NONE);
        started(ends, 0, -1).play(9, 1).legal(set(11)).play(0, NONE);
        // Each trump suit ends where it should: its neighbours are no trumps.
        int[][] around = {{5}, {3}, {8}, {4}};
        started(around, 0, 0).plays(5, 3).winning(1).play(8, 3).winning(1).play(4, 4).won(1, 1);
        started(around, 0, 1).plays(5, 3).winning(0).play(8, 3).winning(0).play(4, 4).won(0, 1);
        started(around, 0, 2).plays(5, 3).winning(0).play(8, 3).winning(2).play(4, 4).won(0, 1);
    }

    private static void heights() {
        for (int suit = 0; suit < 3; suit++) {
            int low = suit * 4;
            int[][] hands = {{low}, {low + 1}, {low + 2}, {low + 3}};
            started(hands, 0, -1).play(low, 1).winning(0).play(low + 1, 2).winning(1)
                .play(low + 2, 3).winning(2).play(low + 3, 4).won(1, 1);
            started(hands, 3, suit).play(low + 3, 1).winning(3).play(low, 2).winning(3)
                .play(low + 1, 3).winning(3).play(low + 2, 4).won(1, 1).won(0, 0);
        }
        // A number that is higher only by its suit is no higher card.
        started(new int[][] {{3}, {4}, {8}, {11}}, 0, -1).plays(3, 4, 8).winning(0).play(11, 4).won(0, 1);
    }

    private static void sides() {
        for (int p = 0; p < 4; p++) {
            int[][] hands = new int[4][];
            for (int i = 0; i < 4; i++) {
                hands[(p + i) % 4] = new int[] {3 - i};
            }
            started(hands, p, -1).plays(3, 2, 1, 0).won(0, p == 0 || p == 2 ? 1 : 0).won(1, p == 1 || p == 3 ? 1 : 0);
        }
    }

    private static void turnGoesRound() {
        for (int leader = 0; leader < 4; leader++) {
            Run run = started(ONE, leader, -1);
            for (int i = 0; i < 4; i++) {
                int p = (leader + i) % 4;
                run.toPlay(p).legal(set(ONE[p])).play(ONE[p][0], i + 1);
            }
            for (int i = 3; i >= 0; i--) {
                int p = (leader + i) % 4;
                run.undo(ONE[p][0]).toPlay(p);
            }
        }
        // From 3 to 0 in each of three tricks.
        Run run = mixed(0);
        for (int i = 0; i < 12; i++) {
            run.toPlay(MIXED_TURNS[i]).play(MIXED_COURSE[i], i % 4 + 1);
        }
        for (int i = 11; i >= 0; i--) {
            run.undo(MIXED_COURSE[i]).toPlay(MIXED_TURNS[i]);
        }
        // The card that wins is told by its player, though the turn went from 3 to 0 before it.
        started(new int[][] {{2}, {1}, {4}, {0}}, 3, -1).play(0, 1).winning(3).play(2, 2).winning(0)
            .play(1, 3).winning(0).play(4, 4).won(0, 1);
    }

    private static void oneHolder() {
        Run run = new Run();
        for (int p = 0; p < 4; p++) {
            run.deal(6, p, 1).hands(p == 0 ? 64 : 0, p == 1 ? 64 : 0, p == 2 ? 64 : 0, p == 3 ? 64 : 0);
        }
        run.deal(6, 0, 1).hands(64, 0, 0, 0).deal(6, -1, 0).hands(0, 0, 0, 0).deal(6, -1, 0).hands(0, 0, 0, 0);
    }

    private static void playStaysOn() {
        Run run = dealt(ONE).off().start(0, -1, 1).toPlay(0).plays(1, 2, 4, 8);
        run.legal(0).value(0).best(NONE).play(1, NONE).toPlay(NONE).won(1, 1);
        run.undo(8).undo(4).undo(2).undo(1).undo(NONE).toPlay(0).legal(2);
        run.deal(12, 0, BAD_ARG).start(4, 0, BAD_ARG).toPlay(0);
        run.start(1, 0, 1).toPlay(1).deal(11, -1, 4).off();
        run.start(1, 0, 1).toPlay(1).clear().off();
    }

    private static void lastTrick() {
        started(ONE, 0, -1).plays(1, 2, 4, 8).toPlay(NONE).legal(0).play(1, NONE).play(0, NONE).won(0, 0).won(1, 1);
        started(TWO, 2, -1).plays(TWO_COURSE).toPlay(NONE).legal(0).play(3, NONE).play(7, NONE).won(0, 2).won(1, 0);
        mixed(12).toPlay(NONE).legal(0).play(5, NONE).hands(0, 0, 0, 0);
        mixed(11).toPlay(1).legal(set(5)).hands(0, set(5), 0, 0).play(5, 4);
    }

    private static void onlyOwnCards() {
        for (int cards = 0; cards < 8; cards++) {
            Run run = started(TWO, 2, -1);
            for (int i = 0; i < cards; i++) {
                run.play(TWO_COURSE[i], i % 4 + 1);
            }
            int[] left = left(TWO, TWO_COURSE, TWO_TURNS, cards);
            for (int c = 0; c < 12; c++) {
                if ((left[TWO_TURNS[cards]] >> c & 1) == 0) {
                    run.play(c, NONE).after(c, NONE);
                }
            }
            run.hands(left).toPlay(TWO_TURNS[cards]);
        }
    }

    private static void following() {
        // One, two and three cards of the led suit, and none.
        int[][] hands = {{0, 4, 8}, {1, 5, 6}, {2, 3, 9}, {7, 10, 11}};
        Run run = started(hands, 0, 2).play(0, 1).legal(set(1)).play(5, NONE).play(6, NONE).play(1, 2);
        run.legal(set(2, 3)).play(9, NONE).play(2, 3).legal(set(7, 10, 11)).play(7, 4);
        int[][] alone = {{0, 4, 5}, {1, 2, 3}, {6, 7, 8}, {9, 10, 11}};
        run = started(alone, 0, 2).play(0, 1).legal(set(1, 2, 3)).play(1, 2).legal(set(6, 7, 8)).play(8, 3);
        // Only the first card of the trick binds, not the trump or any card after it.
        run.legal(set(9, 10, 11)).play(9, 4).legal(set(10, 11)).play(10, 1).legal(set(4, 5)).play(4, 2);
        run.legal(set(2, 3)).play(2, 3).legal(set(6, 7));
        // A card of the led suit that has gone binds no more.
        int[][] gone = {{3, 2}, {0, 4}, {1, 5}, {6, 7}};
        started(gone, 0, -1).plays(3, 0, 1, 6).play(2, 1).legal(set(4)).play(4, 2).legal(set(5));
    }

    // The place in the trick of the card that wins, said as the document says it.
    private static int winnerOf(int[] cards, int count, int trump) {
        for (int suit : new int[] {trump, cards[0] / 4}) {
            int top = -1;
            for (int i = 0; i < count; i++) {
                if (cards[i] / 4 == suit && (top < 0 || cards[i] % 4 > cards[top] % 4)) {
                    top = i;
                }
            }
            if (top >= 0) {
                return top;
            }
        }
        throw new IllegalStateException();
    }

    private static void trick(int[] cards, int leader, int trump) {
        OpenTricks x = new OpenTricks();
        for (int i = 0; i < 4; i++) {
            x.deal(cards[i], (leader + i) % 4);
        }
        x.start(leader, trump);
        String name = "trick " + cards[0] + " " + cards[1] + " " + cards[2] + " " + cards[3]
            + " from player " + leader + " with trump " + trump + ": ";
        for (int i = 0; i < 4; i++) {
            if (x.play(cards[i]) != i + 1) {
                fault(name + "card " + cards[i] + " refused");
            }
            int want = i == 3 ? NONE : (leader + winnerOf(cards, i + 1, trump)) % 4;
            int got = x.winning();
            if (got != want) {
                fault(name + "winning() answered " + got + " after " + (i + 1) + " cards, due is " + want);
            }
        }
        int winner = (leader + winnerOf(cards, 4, trump)) % 4;
        if (x.won(winner % 2) != 1 || x.won(1 - winner % 2) != 0) {
            fault(name + "not won by the side of player " + winner);
        }
    }

    // Each trick of four cards that there is. With one card each, nobody has a choice.
    private static void everyTrick() {
        int[] cards = new int[4];
        for (int n = 0; n < 12 * 12 * 12 * 12; n++) {
            cards[0] = n % 12;
            cards[1] = n / 12 % 12;
            cards[2] = n / 144 % 12;
            cards[3] = n / 1728;
            if (Integer.bitCount(set(cards[0]) | set(cards[1]) | set(cards[2]) | set(cards[3])) == 4) {
                for (int trump = -1; trump < 3; trump++) {
                    trick(cards, n % 7 % 4, trump);
                }
            }
        }
    }

    private static void winnerLeads() {
        for (int leader = 0; leader < 4; leader++) {
            for (int winner = 0; winner < 4; winner++) {
                // The winner holds card 3; the first trick takes all of its suit.
                int[][] hands = new int[4][];
                for (int i = 0; i < 4; i++) {
                    hands[(winner + i) % 4] = new int[] {3 - i, 4 + i};
                }
                Run run = started(hands, leader, -1);
                for (int i = 0; i < 4; i++) {
                    run.play(hands[(leader + i) % 4][0], i + 1);
                }
                run.toPlay(winner).legal(set(4)).play(4, 1).toPlay((winner + 1) % 4);
                // With the trick open again, it is the turn of its last player.
                run.undo(4).undo(hands[(leader + 3) % 4][0]).toPlay((leader + 3) % 4);
            }
        }
    }

    private static void allTogether() {
        // Side 0 wins the first trick with card 3 and must lose the second.
        int[][] hands = {{3, 4}, {0, 5}, {1, 6}, {2, 7}};
        Run run = started(hands, 0, -1).value(1).least(1).play(3, 1).value(1);
        run.play(0, 2).play(1, 3).play(2, 4).won(0, 1).value(1).least(1).after(4, 1).after(5, NONE);
        run.plays(4, 5, 6).value(1).least(1).after(7, 1).play(7, 4).value(1).least(1).won(0, 1).won(1, 1);
        // The least and the greatest result that there are.
        int[][] high = {{3, 7, 11}, {0, 4, 8}, {2, 6, 10}, {1, 5, 9}};
        int[][] low = {{0, 4, 8}, {3, 7, 11}, {1, 5, 9}, {2, 6, 10}};
        for (int leader = 0; leader < 4; leader++) {
            started(high, leader, -1).value(3).least(3);
            started(low, leader, -1).value(0).least(0);
        }
    }

    private static void sets() {
        Run run = new Run();
        for (int p = 0; p < 4; p++) {
            run.hand(p, 0);
        }
        for (int c = 0; c < 12; c++) {
            run.deal(c, c / 3, c + 1);
        }
        run.hands(7, 56, 448, 3584).start(3, -1, 3).legal(3584).play(11, 1).hand(3, 1536).legal(7);
        run.undo(11).start(0, -1, 3).legal(7).play(0, 1).legal(8).play(3, 2).legal(448);
        for (int c = 0; c < 12; c++) {
            new Run().deal(c, c % 4, 1).hand(c % 4, 1 << c);
        }
    }

    private record Call(String name, boolean asks, ToIntFunction<OpenTricks> made) {
    }

    private static List<Call> everyCall() {
        List<Call> calls = new ArrayList<>();
        for (int c : new int[] {MIN, -1, 0, 1, 2, 3, 4, 5, 6, 7, 8, 9, 10, 11, 12, MAX}) {
            for (int p : new int[] {MIN, -2, -1, 0, 1, 2, 3, 4, MAX}) {
                calls.add(new Call("deal(" + c + "," + p + ")", false, x -> x.deal(c, p)));
            }
        }
        for (int leader : new int[] {MIN, -1, 0, 1, 3, 4, MAX}) {
            for (int trump : new int[] {MIN, -2, -1, 0, 2, 3, MAX}) {
                calls.add(new Call("start(" + leader + "," + trump + ")", false, x -> x.start(leader, trump)));
            }
        }
        for (int n : EDGES) {
            calls.add(new Call("deal(" + n + ",0)", false, x -> x.deal(n, 0)));
            calls.add(new Call("deal(0," + n + ")", false, x -> x.deal(0, n)));
            calls.add(new Call("hand(" + n + ")", true, x -> x.hand(n)));
            calls.add(new Call("start(" + n + ",0)", false, x -> x.start(n, 0)));
            calls.add(new Call("start(0," + n + ")", false, x -> x.start(0, n)));
            calls.add(new Call("play(" + n + ")", false, x -> x.play(n)));
            calls.add(new Call("won(" + n + ")", true, x -> x.won(n)));
            calls.add(new Call("after(" + n + ")", true, x -> x.after(n)));
        }
        for (int c = 0; c < 12; c++) {
            int card = c;
            calls.add(new Call("play(" + c + ")", false, x -> x.play(card)));
            calls.add(new Call("after(" + c + ")", true, x -> x.after(card)));
        }
        calls.add(new Call("toPlay()", true, OpenTricks::toPlay));
        calls.add(new Call("legal()", true, OpenTricks::legal));
        calls.add(new Call("undo()", false, OpenTricks::undo));
        calls.add(new Call("winning()", true, OpenTricks::winning));
        calls.add(new Call("value()", true, OpenTricks::value));
        calls.add(new Call("best()", true, OpenTricks::best));
        calls.add(new Call("least()", true, OpenTricks::least));
        calls.add(new Call("courses()", true, OpenTricks::courses));
        calls.add(new Call("clear()", false, x -> {
            x.clear();
            return 0;
        }));
        return calls;
    }

    private static List<Supplier<Run>> situations() {
        List<Supplier<Run>> situations = new ArrayList<>();
        situations.add(Run::new);
        situations.add(() -> new Run().deal(5, 2, 1));
        situations.add(() -> new Run().deal(0, 0, 1).deal(5, 0, 2).deal(11, 0, 3).deal(6, 3, 4));
        situations.add(() -> dealt(ONE));
        situations.add(() -> dealt(TWO));
        situations.add(() -> dealt(MIXED));
        situations.add(() -> started(ONE, 3, 2));
        situations.add(() -> started(TWO, 2, -1).plays(3, 8, 0));
        situations.add(() -> started(TWO, 2, -1).plays(TWO_COURSE));
        for (int cards = 0; cards <= 12; cards++) {
            int played = cards;
            situations.add(() -> mixed(played));
        }
        situations.add(() -> mixed(2).undo(0).undo(3));
        situations.add(() -> mixed(5).undo(10).undo(2));
        situations.add(() -> mixed(6).start(0, -1, 3));
        situations.add(() -> mixed(7).deal(11, -1, 11));
        situations.add(() -> mixed(8).clear());
        return situations;
    }

    private static String questions(OpenTricks x) {
        StringBuilder told = new StringBuilder(" hands");
        for (int p = 0; p < 4; p++) {
            told.append(' ').append(x.hand(p));
        }
        told.append(" toPlay ").append(x.toPlay()).append(" legal ").append(x.legal());
        told.append(" won ").append(x.won(0)).append(' ').append(x.won(1)).append(" winning ").append(x.winning());
        told.append(" value ").append(x.value()).append(" best ").append(x.best());
        return told.append(" least ").append(x.least()).append(" courses ").append(x.courses()).append('\n').toString();
    }

    // All that calls after it can show of a state: as it is, on to the last card, back to the
    // first, begun anew, and ended. It uses the object up.
    private static String shown(OpenTricks x) {
        StringBuilder told = new StringBuilder(questions(x));
        for (int i = 0; i < 12 && x.legal() > 0; i++) {
            told.append(" play ").append(x.play(31 - Integer.numberOfLeadingZeros(x.legal()))).append(questions(x));
        }
        int back = 0;
        for (int i = 0; i < 13 && back >= 0; i++) {
            back = x.undo();
            told.append(" undo ").append(back);
        }
        told.append(questions(x));
        told.append(" start ").append(x.start(1, 0)).append(questions(x));
        told.append(" deal ").append(x.deal(11, -1)).append(questions(x));
        return told.toString();
    }

    private static void refusedCallsAndQuestions() {
        List<Call> calls = everyCall();
        for (Supplier<Run> situation : situations()) {
            String untouched = shown(situation.get().x);
            for (Call call : calls) {
                Run run = situation.get();
                int answer;
                try {
                    answer = call.made().applyAsInt(run.x);
                } catch (RuntimeException e) {
                    fault(run.calls + call.name() + " threw " + e);
                    continue;
                }
                if ((answer < 0 || call.asks()) && !shown(run.x).equals(untouched)) {
                    fault(run.calls + call.name() + " answered " + answer + " and changed the state");
                }
            }
        }
    }

    // ---- Promise 1 ----

    private static void newObject() {
        test("1: Nobody holds a card", () -> new Run().hands(0, 0, 0, 0).deal(0, -1, 0).start(0, -1, NONE));
        test("1: play is not on", () -> new Run().off());
        test("1: a new object is new while another is in play", () -> {
            Run other = mixed(5);
            new Run().hands(0, 0, 0, 0).off();
            other.toPlay(2).hand(1, set(5));
        });
    }

    // ---- Promise 2 ----

    private static void deal() {
        test("2: c not 0 to 11 answers BAD_ARG", () -> {
            new Run().deal(-1, 0, BAD_ARG).deal(0, 0, 1).deal(11, 0, 2).deal(12, 0, BAD_ARG).hand(0, set(0, 11));
            for (int n : EDGES) {
                new Run().deal(n, 3, in(n, 0, 11) ? 1 : BAD_ARG).hands(0, 0, 0, in(n, 0, 11) ? 1 << n : 0);
                new Run().deal(n, -1, in(n, 0, 11) ? 0 : BAD_ARG).hands(0, 0, 0, 0);
            }
        });
        test("2: p not -1 to 3 answers BAD_ARG", () -> {
            new Run().deal(4, -2, BAD_ARG).deal(4, -1, 0).deal(4, 0, 1).deal(4, 3, 1).deal(4, 4, BAD_ARG)
                .hands(0, 0, 0, 16);
            for (int n : EDGES) {
                int held = n == -1 ? 0 : 1;
                Run run = new Run().deal(4, 2, 1).deal(4, n, in(n, -1, 3) ? held : BAD_ARG);
                run.hands(n == 0 ? 16 : 0, n == 1 ? 16 : 0, n == 2 || !in(n, -1, 3) ? 16 : 0, n == 3 ? 16 : 0);
            }
        });
        test("2: or by nobody (p = -1)", () -> {
            Run run = dealt(MIXED);
            for (int c = 0; c < 12; c++) {
                run.deal(c, -1, 11 - c).deal(c, -1, 11 - c);
            }
            run.hands(0, 0, 0, 0).off();
        });
        test("2: p would hold more than three cards answers FULL", () -> {
            for (int p = 0; p < 4; p++) {
                Run run = new Run().deal(0, p, 1).deal(5, p, 2).deal(11, p, 3);
                for (int c = 0; c < 12; c++) {
                    run.deal(c, p, c == 0 || c == 5 || c == 11 ? 3 : FULL).hand(p, set(0, 5, 11));
                }
                // A card that another holds is refused too, and stays there; -1 is never full.
                int q = (p + 1) % 4;
                run.deal(7, q, 4).deal(7, p, FULL).hand(q, set(7)).deal(8, -1, 4);
                run.deal(5, q, 4).deal(7, p, 4).hand(p, set(0, 7, 11)).hand(q, set(5)).deal(5, p, FULL);
                run.deal(0, -1, 3).deal(5, p, 3).hand(p, set(5, 7, 11)).hand(q, 0);
            }
        });
        test("2: FULL with all twelve cards held", () -> {
            Run run = dealt(MIXED);
            for (int c = 0; c < 12; c++) {
                for (int p = 0; p < 4; p++) {
                    run.deal(c, p, (set(MIXED[p]) >> c & 1) == 1 ? 12 : FULL);
                }
            }
            run.hands(MIXED);
        });
        test("2: Otherwise the number of cards held", () -> {
            Run run = new Run().deal(9, -1, 0);
            for (int c = 0; c < 12; c++) {
                run.deal(c, c % 4, c + 1).deal(c, c % 4, c + 1);
            }
            run.deal(0, -1, 11).deal(0, 0, 12);
        });
        test("2: if play is on, it ends, and all players hold what they held when it began", () -> {
            for (int cards = 0; cards <= 12; cards++) {
                // Her own card to player 0 again: nothing is given, play ends all the same.
                mixed(cards).hands(left(MIXED, MIXED_COURSE, MIXED_TURNS, cards))
                    .deal(0, 0, 12).off().hands(MIXED).start(0, -1, 3);
            }
            for (int cards = 0; cards <= 8; cards++) {
                Run run = started(TWO, 2, -1);
                for (int i = 0; i < cards; i++) {
                    run.play(TWO_COURSE[i], i % 4 + 1);
                }
                run.deal(11, -1, 8).off().hands(TWO);
            }
        });
        test("2: then c is given", () -> {
            // Card 3 is played, held, or not dealt at all.
            started(TWO, 2, -1).plays(3, 8).deal(3, 0, 8).off().hands(set(0, 3, 4), set(2, 7), set(1), set(5, 8));
            started(TWO, 2, -1).plays(1, 8).deal(3, 0, 8).off().hands(set(0, 3, 4), set(2, 7), set(1), set(5, 8));
            started(TWO, 2, -1).plays(3, 8).deal(11, 0, 9).off().hands(set(0, 4, 11), set(2, 7), set(1, 3), set(5, 8));
            started(TWO, 2, -1).plays(3, 8).deal(3, -1, 7).off().hands(set(0, 4), set(2, 7), set(1), set(5, 8));
            started(TWO, 2, -1).plays(TWO_COURSE).deal(7, 3, 8).off().hands(set(0, 4), set(2), set(1, 3), set(5, 7, 8));
        });
        test("2: a deal after the one that ended play gives nothing back", () ->
            started(TWO, 2, -1).plays(3, 8).deal(3, -1, 7).deal(8, -1, 6).deal(0, 3, 6)
                .hands(set(4), set(2, 7), set(1), set(0, 5)).off());
        test("2: FULL in play counts what was held when play began", () -> {
            for (int cards = 0; cards <= 12; cards++) {
                int[] left = left(MIXED, MIXED_COURSE, MIXED_TURNS, cards);
                mixed(cards).deal(0, 3, FULL).deal(11, 1, FULL).hands(left)
                    .toPlay(cards == 12 ? NONE : MIXED_TURNS[cards]);
            }
            // Two each: there is room for a third card, before and after one was played.
            started(TWO, 2, -1).deal(0, 2, 8).hand(2, set(0, 1, 3)).deal(2, 2, FULL);
            started(TWO, 2, -1).play(3, 1).deal(0, 2, 8).hand(2, set(0, 1, 3)).deal(2, 2, FULL);
        });
        test("2: BAD_ARG is tested before FULL", () -> {
            Run run = dealt(MIXED);
            for (int p = 0; p < 4; p++) {
                run.deal(12, p, BAD_ARG).deal(-1, p, BAD_ARG).deal(MIN, p, BAD_ARG).deal(MAX, p, BAD_ARG);
            }
            run.deal(12, 4, BAD_ARG).deal(-1, -2, BAD_ARG).deal(0, 3, FULL).hands(MIXED);
            mixed(4).deal(12, 1, BAD_ARG).deal(0, 1, FULL).toPlay(1);
        });
    }

    // ---- Promise 3 ----

    private static void clear() {
        test("3: Nobody holds a card; play is not on", () -> {
            new Run().clear().hands(0, 0, 0, 0).off();
            new Run().deal(11, 3, 1).clear().hands(0, 0, 0, 0).off().clear().deal(11, -1, 0);
            dealt(MIXED).clear().hands(0, 0, 0, 0).off().start(0, -1, NONE).deal(4, 1, 1);
            for (int cards = 0; cards <= 12; cards++) {
                mixed(cards).clear().hands(0, 0, 0, 0).off().start(0, -1, NONE);
            }
        });
        test("3: what was held before clear never comes back", () -> {
            mixed(3).clear().deal(5, 3, 1).hands(0, 0, 0, 32).deal(5, -1, 0).hands(0, 0, 0, 0);
            mixed(9).clear().deal(ONE).start(0, -1, 1).toPlay(0).undo(NONE).won(0, 0).won(1, 0)
                .legal(set(1)).plays(1, 2, 4, 8).toPlay(NONE).deal(11, -1, 4).hands(ONE);
        });
    }

    // ---- Promise 4 ----

    private static void hand() {
        test("4: BAD_ARG if p is not 0 to 3", () -> {
            Run empty = new Run();
            Run whole = dealt(MIXED);
            Run inPlay = mixed(12);
            for (int n : EDGES) {
                empty.hand(n, in(n, 0, 3) ? 0 : BAD_ARG);
                whole.hand(n, in(n, 0, 3) ? set(MIXED[n]) : BAD_ARG);
                inPlay.hand(n, in(n, 0, 3) ? 0 : BAD_ARG);
            }
        });
        test("4: the cards that player p holds, in play", () -> {
            for (int cards = 0; cards <= 12; cards++) {
                mixed(cards).hands(left(MIXED, MIXED_COURSE, MIXED_TURNS, cards));
            }
            mixed(1).hand(3, set(7, 8)).undo(3).hand(3, set(3, 7, 8));
        });
    }

    // ---- Promise 5 ----

    private static void start() {
        test("5: leader not 0 to 3 answers BAD_ARG", () -> {
            for (int n : EDGES) {
                Run run = dealt(ONE).start(n, -1, in(n, 0, 3) ? 1 : BAD_ARG);
                run.toPlay(in(n, 0, 3) ? n : OFF).hands(ONE);
            }
        });
        test("5: trump not -1 to 2 answers BAD_ARG", () -> {
            for (int n : EDGES) {
                dealt(ONE).start(3, n, in(n, -1, 2) ? 1 : BAD_ARG).toPlay(in(n, -1, 2) ? 3 : OFF).hands(ONE);
            }
        });
        test("5: trump suit (-1: none)", () -> {
            // Player 0 leads card 1; card 2 follows higher, then a card of each other suit.
            int[] winners = {1, 1, 2, 3};
            for (int trump = -1; trump < 3; trump++) {
                int winner = winners[trump + 1];
                started(ONE, 0, trump).plays(1, 2, 4, 8).won(winner % 2, 1).won(1 - winner % 2, 0);
            }
        });
        test("5: the players do not hold the same number of cards each, or none, answers NONE", BoundaryTest::sizes);
        test("5: Otherwise the number of cards that each holds", () -> {
            dealt(ONE).start(0, 0, 1);
            dealt(TWO).start(0, 0, 2);
            dealt(MIXED).start(0, 0, 3);
        });
        test("5: BAD_ARG is tested before NONE", () -> {
            new Run().start(4, 0, BAD_ARG).start(-1, 0, BAD_ARG).start(0, 3, BAD_ARG).start(0, -2, BAD_ARG)
                .start(MIN, MAX, BAD_ARG).start(0, 0, NONE).off();
            dealt(MIXED).deal(0, -1, 11).start(4, 0, BAD_ARG).start(0, 3, BAD_ARG).start(3, 2, NONE).off();
        });
        test("5: if it was on, it begins anew with what players held when it began", () -> {
            for (int cards = 0; cards <= 12; cards++) {
                mixed(cards).start(0, -1, 3).hands(MIXED).toPlay(0).legal(set(0, 1, 9)).won(0, 0).won(1, 0)
                    .winning(NONE).undo(NONE).plays(0, 4, 2).winning(2);
            }
            // Begun anew twice, and ended: still what they held at first.
            mixed(5).start(1, 0, 3).plays(4, 6).start(2, 2, 3).play(11, 1).deal(0, 0, 12).hands(MIXED).off();
        });
        test("5: a start refused in play leaves the leader and the trump as they were", () -> {
            Run run = started(ONE, 0, 2).start(1, 3, BAD_ARG).start(1, -2, BAD_ARG).start(4, 0, BAD_ARG)
                .start(-1, -1, BAD_ARG).toPlay(0);
            run.plays(1, 2).start(3, 3, BAD_ARG).play(4, 3).play(8, 4).start(4, -1, BAD_ARG).won(1, 1);
            run.undo(8).winning(1).play(8, 4).undo(8).undo(4).undo(2).undo(1).toPlay(0);
        });
    }

    private static void sizes() {
        for (int n = 0; n < 256; n++) {
            int[] sizes = {n & 3, n >> 2 & 3, n >> 4 & 3, n >> 6};
            Run run = new Run();
            int c = 0;
            for (int p = 0; p < 4; p++) {
                for (int i = 0; i < sizes[p]; i++) {
                    run.deal(c, p, c + 1);
                    c++;
                }
            }
            boolean same = sizes[0] == sizes[1] && sizes[1] == sizes[2] && sizes[2] == sizes[3] && n > 0;
            run.start(2, 1, same ? sizes[0] : NONE).toPlay(same ? 2 : OFF);
        }
    }

    // ---- Promises 6 to 8 ----

    private static void toPlay() {
        test("6: NONE if nobody holds a card", () -> {
            started(ONE, 0, -1).plays(1, 2, 4).toPlay(3).play(8, 4).toPlay(NONE).undo(8).toPlay(3);
            mixed(11).toPlay(1).play(5, 4).toPlay(NONE);
        });
        test("6: OFF if play is not on", () -> {
            new Run().toPlay(OFF);
            dealt(MIXED).toPlay(OFF).start(3, 0, 3).toPlay(3).deal(0, 0, 12).toPlay(OFF);
        });
    }

    private static void legal() {
        test("7: 0 if nobody holds one", () -> {
            started(ONE, 0, -1).plays(1, 2, 4).legal(set(8)).play(8, 4).legal(0).undo(8).legal(set(8));
            mixed(12).legal(0);
        });
        test("7: OFF if play is not on", () -> {
            new Run().legal(OFF);
            dealt(MIXED).legal(OFF).start(3, 0, 3).legal(set(3, 7, 8)).clear().legal(OFF);
        });
    }

    private static void play() {
        test("8: the number of cards of the trick so far, this one too (4 if it is complete)", () -> {
            Run run = mixed(0);
            int[] counts = {1, 2, 3, 4, 1, 2, 3, 4, 1, 2, 3, 4};
            for (int i = 0; i < 12; i++) {
                run.play(MIXED_COURSE[i], counts[i]).undo(MIXED_COURSE[i]).play(MIXED_COURSE[i], counts[i]);
            }
        });
        test("8: NONE if it may not be played: no such card", () -> {
            Run first = mixed(0);
            Run last = mixed(12);
            for (int n : EDGES) {
                if (!in(n, 0, 11)) {
                    first.play(n, NONE);
                    last.play(n, NONE);
                }
            }
            first.hands(MIXED).undo(NONE).toPlay(3);
            last.toPlay(NONE).undo(5);
        });
        test("8: NONE if it may not be played: every card in every place of a course", () -> {
            int[] legal = {
                set(3, 7, 8), set(0, 1), set(4, 5, 10), set(2), set(5, 10), set(11), set(8), set(9),
                set(6), set(7), set(1), set(5), 0
            };
            for (int cards = 0; cards <= 12; cards++) {
                Run run = mixed(cards).legal(legal[cards]);
                for (int c = 0; c < 12; c++) {
                    if ((legal[cards] >> c & 1) == 1) {
                        run.play(c, cards % 4 + 1).undo(c);
                    } else {
                        run.play(c, NONE);
                    }
                }
                run.hands(left(MIXED, MIXED_COURSE, MIXED_TURNS, cards));
            }
        });
        test("8: OFF if play is not on", () -> {
            for (int n : EDGES) {
                new Run().play(n, OFF);
                dealt(MIXED).play(n, OFF).hands(MIXED);
            }
        });
    }

    // ---- Promises 9 to 11 ----

    private static void undo() {
        test("9: NONE if no card was played", () -> {
            started(ONE, 3, -1).undo(NONE).undo(NONE).toPlay(3).play(8, 1).undo(8).undo(NONE).hands(ONE);
            mixed(6).start(3, 1, 3).undo(NONE).hands(MIXED);
        });
        test("9: OFF if play is not on", () -> {
            new Run().undo(OFF);
            mixed(6).deal(0, 0, 12).undo(OFF).hands(MIXED);
            mixed(6).clear().undo(OFF);
        });
        test("9: The last card played is taken back, over the end of a trick", () -> {
            // Player 1 has won the first trick; without its last card player 2 is to play.
            mixed(4).won(1, 1).toPlay(1).undo(2).won(1, 0).toPlay(2).winning(1).hand(2, set(2, 6, 11)).legal(set(2));
            mixed(5).winning(1).undo(10).winning(NONE).won(1, 1).toPlay(1).undo(2).won(1, 0).winning(1);
        });
        test("9: The last card played is taken back, from the last card to the first", () -> {
            Run run = mixed(12);
            for (int i = 11; i >= 0; i--) {
                run.undo(MIXED_COURSE[i]).toPlay(MIXED_TURNS[i]).hands(left(MIXED, MIXED_COURSE, MIXED_TURNS, i));
            }
            run.undo(NONE);
        });
        test("9: another card after the one taken back makes another winner", () ->
            started(TWO, 2, 2).plays(3, 8, 0, 2).toPlay(3).undo(2).undo(0).undo(8).play(5, 2).play(0, 3).play(2, 4)
                .toPlay(2).won(0, 1).won(1, 0));
    }

    private static void won() {
        test("10: BAD_ARG if s is not 0 or 1", () -> {
            Run inPlay = mixed(12);
            for (int n : EDGES) {
                inPlay.won(n, n == 0 ? 1 : n == 1 ? 2 : BAD_ARG);
            }
        });
        test("10: OFF if play is not on", () -> {
            new Run().won(0, OFF).won(1, OFF);
            mixed(12).won(1, 2).deal(0, 0, 12).won(0, OFF).won(1, OFF);
        });
        test("10: The number of tricks won so far: a trick of three cards is not won yet", () -> {
            int[] side0 = {0, 0, 1, 1};
            int[] side1 = {0, 1, 1, 2};
            for (int cards = 0; cards <= 12; cards++) {
                mixed(cards).won(0, side0[cards / 4]).won(1, side1[cards / 4]);
            }
            int[][] high = {{3, 7, 11}, {0, 4, 8}, {2, 6, 10}, {1, 5, 9}};
            started(high, 0, -1).plays(3, 0, 2, 1, 7, 4, 6, 5, 11, 8, 10).won(0, 2).play(9, 4).won(0, 3).won(1, 0);
        });
    }

    private static void winning() {
        test("11: NONE if it has no card", () -> {
            int[] winning = {NONE, 3, 3, 1, NONE, 1, 2, 2, NONE, 2, 3, 3, NONE};
            for (int cards = 0; cards <= 12; cards++) {
                mixed(cards).winning(winning[cards]);
            }
            mixed(1).winning(3).undo(3).winning(NONE);
        });
        test("11: OFF if play is not on", () -> {
            new Run().winning(OFF);
            dealt(MIXED).winning(OFF);
            mixed(3).deal(0, 0, 12).winning(OFF);
        });
    }

    // ---- Promises 12 to 16 ----

    private static void value() {
        test("12: The value, with one card left, and with none", () -> {
            started(ONE, 0, -1).value(0).plays(1, 2, 4).value(0).play(8, 4).value(0);
            started(ONE, 0, 1).value(1).plays(1, 2, 4).value(1).play(8, 4).value(1);
            mixed(11).value(1).play(5, 4).value(1);
        });
        test("12: as great as side 0 and as small as side 1 can make it", () -> {
            // Player 2 chooses for side 0; one seat on, the same choice is side 1's.
            started(TWO, 2, -1).value(2).play(1, 1).value(0);
            int[][] turned = {TWO[3], TWO[0], TWO[1], TWO[2]};
            started(turned, 3, -1).value(0).play(1, 1).value(2);
        });
        test("12: OFF if play is not on", () -> {
            new Run().value(OFF);
            dealt(MIXED).value(OFF);
            mixed(12).deal(0, 0, 12).value(OFF);
        });
    }

    private static void after() {
        test("13: NONE if it may not be played", () -> {
            for (int n : EDGES) {
                started(TWO, 2, -1).after(n, n == 1 ? 0 : n == 3 ? 2 : NONE).hands(TWO).undo(NONE);
                mixed(12).after(n, NONE).undo(5);
            }
            // Held, but of another suit than the led one.
            started(TWO, 2, -1).plays(3, 8).after(4, NONE).after(0, 2).toPlay(0);
        });
        test("13: The value after the last card", () ->
            started(ONE, 0, 1).plays(1, 2, 4).after(8, 1).toPlay(3).won(0, 0).hand(3, set(8))
                .play(8, 4).after(8, NONE));
        test("13: The value after the last card of a trick", () ->
            mixed(3).after(2, mixed(4).x.value()).toPlay(2).won(1, 0).winning(1).undo(4));
        test("13: OFF if play is not on", () -> {
            for (int n : EDGES) {
                new Run().after(n, OFF);
                dealt(MIXED).after(n, OFF).hands(MIXED);
            }
        });
    }

    private static void best() {
        test("14: The least card whose playing leaves the value as it is", () -> {
            // The least card that may be played is not it, then it is.
            started(TWO, 2, -1).value(2).after(1, 0).after(3, 2).best(3);
            started(TWO, 2, 2).value(0).after(1, 0).after(3, 0).best(1);
            int[][] turned = {TWO[3], TWO[0], TWO[1], TWO[2]};
            started(turned, 3, -1).value(0).after(1, 2).after(3, 0).best(3);
            // Card 0 is the least of all, and the only one that may be played.
            started(TWO, 2, -1).plays(3, 8).best(0);
            // The greatest card, the last that is held.
            started(new int[][] {{0}, {1}, {2}, {11}}, 3, -1).best(11).play(11, 1).best(0);
        });
        test("14: The least card, if all leave the value as it is, the least and the greatest one", () -> {
            int[][] high = {{3, 7, 11}, {0, 4, 8}, {2, 6, 10}, {1, 5, 9}};
            int[][] low = {{0, 4, 8}, {3, 7, 11}, {1, 5, 9}, {2, 6, 10}};
            int[] lowestHigh = {3, 0, 2, 1};
            int[] lowestLow = {0, 3, 1, 2};
            for (int leader = 0; leader < 4; leader++) {
                started(high, leader, -1).value(3).best(lowestHigh[leader]);
                started(low, leader, -1).value(0).best(lowestLow[leader]);
            }
        });
        test("14: NONE if nobody holds a card", () -> {
            started(ONE, 0, -1).plays(1, 2, 4).best(8).play(8, 4).best(NONE).undo(8).best(8);
            mixed(12).best(NONE);
        });
        test("14: OFF if play is not on", () -> {
            new Run().best(OFF);
            dealt(MIXED).best(OFF);
            mixed(12).deal(0, 0, 12).best(OFF);
        });
    }

    private static void least() {
        test("15: The least result, with one card left, and with none", () -> {
            started(ONE, 0, 1).least(1).plays(1, 2, 4).least(1).play(8, 4).least(1);
            mixed(11).least(1).play(5, 4).least(1);
        });
        test("15: if all four players help side 1", () -> {
            // Side 0 can be sure of two tricks, and gives both away if it likes.
            started(TWO, 2, -1).value(2).least(0).play(3, 1).least(2);
            // Side 1 never plays badly for its own good.
            int[][] turned = {TWO[3], TWO[0], TWO[1], TWO[2]};
            started(turned, 3, -1).least(0).play(1, 1).least(2);
        });
        test("15: OFF if play is not on", () -> {
            new Run().least(OFF);
            dealt(MIXED).least(OFF);
            mixed(12).deal(0, 0, 12).least(OFF);
        });
    }

    private static void courses() {
        test("16: How many ways there are: one card left, and none", () -> {
            started(ONE, 0, -1).courses(1).plays(1, 2, 4).courses(1).play(8, 4).courses(1);
            mixed(12).courses(1);
        });
        test("16: How many ways there are: the most", () -> {
            // Player 3 leads to every trick and wins it, and whoever must follow holds that suit alone.
            int[][] free = {{0, 1, 2}, {4, 5, 6}, {8, 9, 10}, {3, 7, 11}};
            started(free, 3, -1).courses(6 * 6 * 6 * 6).play(3, 1).courses(2 * 6 * 6 * 6).play(1, 2)
                .courses(2 * 2 * 6 * 6).play(4, 3).courses(2 * 2 * 2 * 6).play(8, 4).courses(2 * 2 * 2 * 2);
        });
        test("16: OFF if play is not on", () -> {
            new Run().courses(OFF);
            dealt(MIXED).courses(OFF);
            mixed(12).deal(0, 0, 12).courses(OFF);
        });
    }

    // ---- Promise 17 ----

    private static void orderAndLimits() {
        test("17: won: BAD_ARG is tested before OFF", () -> {
            Run empty = new Run();
            Run ended = mixed(12).deal(0, 0, 12);
            for (int n : EDGES) {
                empty.won(n, n == 0 || n == 1 ? OFF : BAD_ARG);
                ended.won(n, n == 0 || n == 1 ? OFF : BAD_ARG);
            }
        });
        test("17: toPlay, play, undo, winning, after, best: OFF is tested before NONE", () -> {
            // Nobody holds a card and none was played: NONE would be true of each as well.
            new Run().toPlay(OFF).play(0, OFF).play(12, OFF).play(-1, OFF).undo(OFF).winning(OFF)
                .after(0, OFF).after(12, OFF).after(-1, OFF).best(OFF);
            mixed(12).clear().toPlay(OFF).play(0, OFF).play(MAX, OFF).undo(OFF).winning(OFF)
                .after(0, OFF).after(MIN, OFF).best(OFF);
            mixed(12).toPlay(NONE).play(0, NONE).play(MAX, NONE).winning(NONE)
                .after(0, NONE).after(MIN, NONE).best(NONE);
        });
        test("17: A deal that is refused leaves play on, or not, as it was", () -> {
            for (int cards = 0; cards <= 12; cards++) {
                int turn = cards == 12 ? NONE : MIXED_TURNS[cards];
                int[] left = left(MIXED, MIXED_COURSE, MIXED_TURNS, cards);
                mixed(cards).deal(0, 3, FULL).toPlay(turn).hands(left).deal(12, 0, BAD_ARG).toPlay(turn).hands(left)
                    .deal(0, 4, BAD_ARG).toPlay(turn).hands(left).deal(0, -2, BAD_ARG).toPlay(turn).hands(left)
                    .deal(-1, -1, BAD_ARG).toPlay(turn).hands(left)
                    .undo(cards == 0 ? NONE : MIXED_COURSE[Math.max(cards - 1, 0)]);
            }
            dealt(MIXED).deal(0, 3, FULL).off().deal(12, 0, BAD_ARG).off().hands(MIXED);
        });
        test("17: A start that is refused leaves play on, or not, as it was", () -> {
            for (int cards = 0; cards <= 12; cards++) {
                int turn = cards == 12 ? NONE : MIXED_TURNS[cards];
                int[] left = left(MIXED, MIXED_COURSE, MIXED_TURNS, cards);
                mixed(cards).start(4, 0, BAD_ARG).toPlay(turn).hands(left).start(-1, 0, BAD_ARG).toPlay(turn)
                    .start(0, 3, BAD_ARG).toPlay(turn).start(0, -2, BAD_ARG).toPlay(turn).hands(left)
                    .undo(cards == 0 ? NONE : MIXED_COURSE[Math.max(cards - 1, 0)]);
            }
            dealt(MIXED).start(4, 0, BAD_ARG).off().start(0, 3, BAD_ARG).off().hands(MIXED).start(0, 2, 3);
            new Run().deal(0, 0, 1).start(0, 0, NONE).off().hands(1, 0, 0, 0);
        });
    }
}
