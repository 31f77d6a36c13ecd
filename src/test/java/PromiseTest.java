// For each promise of the document: ordinary inputs, the edges it names, and wrong inputs.
public final class PromiseTest {
    private static final int BAD_ARG = -1;
    private static final int FULL = -2;
    private static final int OFF = -3;
    private static final int NONE = -4;

    private static final int[] OUTSIDE = {
        Integer.MIN_VALUE, -1000, -33, -32, -5, -2, 12, 13, 31, 32, 33, 44, 64, 1000, Integer.MAX_VALUE
    };

    // Two cards each. Player 2 must lead card 3 first: led by card 1, the suit is lost to card 2.
    private static final int[][] FINESSE = {{0, 4}, {2, 7}, {1, 3}, {5, 8}};
    // Three cards each, all twelve cards.
    private static final int[][] WHOLE = {{0, 5, 10}, {1, 6, 11}, {2, 7, 8}, {3, 4, 9}};

    private static int wrong = 0;
    private static String promise = "";

    public static void main(String[] args) {
        constants();
        newObject();
        deal();
        dealEndsPlay();
        clear();
        hand();
        start();
        startAnew();
        toPlay();
        legal();
        play();
        trickWinners();
        undo();
        won();
        winning();
        value();
        after();
        best();
        least();
        courses();
        orderAndLimits();
        refusalsChangeNothing();
        questionsChangeNothing();
        System.out.println(wrong == 0 ? "all answers are as due" : wrong + " answers are not as due");
        if (wrong != 0) {
            System.exit(1);
        }
    }

    private static void due(String call, int got, int want) {
        if (got != want) {
            wrong++;
            System.out.println(promise + ": " + call + " answered " + got + ", due is " + want);
        }
    }

    private static void same(String call, String got, String want) {
        if (!got.equals(want)) {
            wrong++;
            System.out.println(promise + ": after " + call + " the state is\n  " + got + ", due is\n  " + want);
        }
    }

    private static OpenTricks dealt(int[][] hands) {
        OpenTricks x = new OpenTricks();
        for (int p = 0; p < 4; p++) {
            for (int c : hands[p]) {
                x.deal(c, p);
            }
        }
        return x;
    }

    private static OpenTricks started(int[][] hands, int leader, int trump) {
        OpenTricks x = dealt(hands);
        x.start(leader, trump);
        return x;
    }

    private static void playAll(OpenTricks x, int... cards) {
        for (int i = 0; i < cards.length; i++) {
            due("play(" + cards[i] + ")", x.play(cards[i]), i % 4 + 1);
        }
    }

    private static int set(int... cards) {
        int set = 0;
        for (int c : cards) {
            set += 1 << c;
        }
        return set;
    }

    private static void hands(OpenTricks x, int h0, int h1, int h2, int h3) {
        due("hand(0)", x.hand(0), h0);
        due("hand(1)", x.hand(1), h1);
        due("hand(2)", x.hand(2), h2);
        due("hand(3)", x.hand(3), h3);
    }

    private static void playIsOff(OpenTricks x) {
        due("toPlay()", x.toPlay(), OFF);
        due("legal()", x.legal(), OFF);
        due("play(0)", x.play(0), OFF);
        due("undo()", x.undo(), OFF);
        due("won(0)", x.won(0), OFF);
        due("won(1)", x.won(1), OFF);
        due("winning()", x.winning(), OFF);
        due("value()", x.value(), OFF);
        due("after(0)", x.after(0), OFF);
        due("best()", x.best(), OFF);
        due("least()", x.least(), OFF);
        due("courses()", x.courses(), OFF);
    }

    // All that can be asked.
    private static String questions(OpenTricks x) {
        StringBuilder told = new StringBuilder("hands");
        for (int p = 0; p < 4; p++) {
            told.append(' ').append(x.hand(p));
        }
        told.append(" toPlay ").append(x.toPlay()).append(" legal ").append(x.legal());
        told.append(" won ").append(x.won(0)).append(' ').append(x.won(1));
        told.append(" winning ").append(x.winning()).append(" value ").append(x.value()).append(" after");
        for (int c = 0; c < 12; c++) {
            told.append(' ').append(x.after(c));
        }
        told.append(" best ").append(x.best()).append(" least ").append(x.least());
        return told.append(" courses ").append(x.courses()).toString();
    }

    private static void constants() {
        promise = "the public face";
        due("BAD_ARG", OpenTricks.BAD_ARG, -1);
        due("FULL", OpenTricks.FULL, -2);
        due("OFF", OpenTricks.OFF, -3);
        due("NONE", OpenTricks.NONE, -4);
    }

    private static void newObject() {
        promise = "promise 1";
        OpenTricks x = new OpenTricks();
        hands(x, 0, 0, 0, 0);
        playIsOff(x);
        due("start(0, -1)", x.start(0, -1), NONE);
        OpenTricks other = started(FINESSE, 2, -1);
        hands(x, 0, 0, 0, 0);
        playIsOff(x);
        due("other.toPlay()", other.toPlay(), 2);
    }

    private static void deal() {
        promise = "promise 2";
        OpenTricks x = new OpenTricks();
        due("deal(0, 0)", x.deal(0, 0), 1);
        due("deal(11, 3)", x.deal(11, 3), 2);
        due("deal(4, -1)", x.deal(4, -1), 2);
        due("deal(0, 1)", x.deal(0, 1), 2);
        hands(x, 0, 1, 0, 2048);
        due("deal(0, -1)", x.deal(0, -1), 1);
        due("deal(0, -1)", x.deal(0, -1), 1);
        hands(x, 0, 0, 0, 2048);
        due("deal(10, 3)", x.deal(10, 3), 2);
        due("deal(9, 3)", x.deal(9, 3), 3);
        due("deal(8, 3)", x.deal(8, 3), FULL);
        due("deal(9, 3)", x.deal(9, 3), 3);
        due("deal(8, 2)", x.deal(8, 2), 4);
        due("deal(8, 3)", x.deal(8, 3), FULL);
        hands(x, 0, 0, 256, set(9, 10, 11));
        due("deal(10, 2)", x.deal(10, 2), 4);
        due("deal(8, 3)", x.deal(8, 3), 4);
        hands(x, 0, 0, 1024, set(8, 9, 11));
        for (int bad : OUTSIDE) {
            due("deal(" + bad + ", 0)", x.deal(bad, 0), BAD_ARG);
            due("deal(" + bad + ", 3)", x.deal(bad, 3), BAD_ARG);
            due("deal(" + bad + ", -1)", x.deal(bad, -1), BAD_ARG);
            due("deal(0, " + bad + ")", x.deal(0, bad), BAD_ARG);
        }
        due("deal(-1, 0)", x.deal(-1, 0), BAD_ARG);
        due("deal(0, 4)", x.deal(0, 4), BAD_ARG);
        hands(x, 0, 0, 1024, set(8, 9, 11));
        OpenTricks whole = dealt(WHOLE);
        due("deal(9, 3)", whole.deal(9, 3), 12);
        due("deal(9, 2)", whole.deal(9, 2), FULL);
    }

    private static void dealEndsPlay() {
        promise = "promise 2, in play";
        OpenTricks x = started(FINESSE, 2, -1);
        playAll(x, 3, 8, 0, 2, 1);
        due("deal(3, 0)", x.deal(3, 0), 8);
        playIsOff(x);
        hands(x, set(0, 3, 4), set(2, 7), set(1), set(5, 8));
        due("start(0, -1)", x.start(0, -1), NONE);

        x = started(FINESSE, 2, -1);
        playAll(x, 3, 8);
        due("deal(11, -1)", x.deal(11, -1), 8);
        playIsOff(x);
        hands(x, set(0, 4), set(2, 7), set(1, 3), set(5, 8));

        x = started(WHOLE, 0, -1);
        playAll(x, 5, 6, 7, 4);
        due("deal(0, 1)", x.deal(0, 1), FULL);
        hands(x, set(0, 10), set(1, 11), set(2, 8), set(3, 9));
        due("toPlay()", x.toPlay(), 2);
        due("deal(0, 0)", x.deal(0, 0), 12);
        hands(x, set(0, 5, 10), set(1, 6, 11), set(2, 7, 8), set(3, 4, 9));
        playIsOff(x);
    }

    private static void clear() {
        promise = "promise 3";
        OpenTricks x = dealt(WHOLE);
        x.clear();
        hands(x, 0, 0, 0, 0);
        playIsOff(x);
        due("deal(3, 3)", x.deal(3, 3), 1);
        x = started(WHOLE, 1, 2);
        playAll(x, 1, 2, 3);
        x.clear();
        hands(x, 0, 0, 0, 0);
        playIsOff(x);
        due("start(0, 0)", x.start(0, 0), NONE);
        due("deal(1, 1)", x.deal(1, 1), 1);
        hands(x, 0, 2, 0, 0);
    }

    private static void hand() {
        promise = "promise 4";
        OpenTricks x = dealt(WHOLE);
        hands(x, 1057, 2114, 388, 536);
        for (int bad : OUTSIDE) {
            due("hand(" + bad + ")", x.hand(bad), BAD_ARG);
        }
        due("hand(-1)", x.hand(-1), BAD_ARG);
        due("hand(4)", x.hand(4), BAD_ARG);
        x.start(0, -1);
        hands(x, 1057, 2114, 388, 536);
        playAll(x, 10, 11);
        hands(x, 33, 66, 388, 536);
        due("hand(4)", x.hand(4), BAD_ARG);
    }

    private static void start() {
        promise = "promise 5";
        OpenTricks x = new OpenTricks();
        due("start(0, 0)", x.start(0, 0), NONE);
        due("start(4, 0)", x.start(4, 0), BAD_ARG);
        for (int p = 0; p < 4; p++) {
            playIsOff(x);
            due("start(0, 0)", x.start(0, 0), NONE);
            x.deal(p, p);
        }
        due("start(0, 0)", x.start(0, 0), 1);
        x.deal(7, 3);
        due("start(0, 0)", x.start(0, 0), NONE);
        playIsOff(x);
        x.deal(7, 0);
        due("start(0, 0)", x.start(0, 0), NONE);
        x.deal(0, 1);
        x.deal(1, -1);
        due("start(0, 0)", x.start(0, 0), 1);
        due("start(3, 2)", dealt(FINESSE).start(3, 2), 2);
        for (int leader = 0; leader < 4; leader++) {
            for (int trump = -1; trump < 3; trump++) {
                x = dealt(WHOLE);
                due("start(" + leader + ", " + trump + ")", x.start(leader, trump), 3);
                due("toPlay()", x.toPlay(), leader);
            }
        }
        x = dealt(WHOLE);
        for (int bad : OUTSIDE) {
            due("start(" + bad + ", 0)", x.start(bad, 0), BAD_ARG);
            due("start(0, " + bad + ")", x.start(0, bad), BAD_ARG);
        }
        due("start(-1, 0)", x.start(-1, 0), BAD_ARG);
        due("start(4, 0)", x.start(4, 0), BAD_ARG);
        due("start(0, 3)", x.start(0, 3), BAD_ARG);
        due("start(0, -2)", x.start(0, -2), BAD_ARG);
        playIsOff(x);
    }

    private static void startAnew() {
        promise = "promise 5, in play";
        OpenTricks x = started(FINESSE, 2, -1);
        playAll(x, 3, 8, 0, 2, 1);
        due("start(1, 2)", x.start(1, 2), 2);
        hands(x, set(0, 4), set(2, 7), set(1, 3), set(5, 8));
        due("toPlay()", x.toPlay(), 1);
        due("won(0)", x.won(0), 0);
        due("winning()", x.winning(), NONE);
        due("undo()", x.undo(), NONE);
        playAll(x, 2, 1, 8);
        due("winning()", x.winning(), 3);
        due("start(1, -1)", x.start(1, -1), 2);
        playAll(x, 2, 1, 8);
        due("winning()", x.winning(), 1);
        x = started(FINESSE, 2, -1);
        playAll(x, 3, 8, 0, 2, 1, 5, 4, 7);
        due("start(0, 0)", x.start(0, 0), 2);
        due("legal()", x.legal(), set(0, 4));
    }

    private static void toPlay() {
        promise = "promise 6";
        OpenTricks x = started(FINESSE, 2, -1);
        int[] cards = {3, 8, 0, 2, 1, 5, 4, 7};
        int[] players = {2, 3, 0, 1, 2, 3, 0, 1};
        for (int i = 0; i < 8; i++) {
            due("toPlay()", x.toPlay(), players[i]);
            x.play(cards[i]);
        }
        due("toPlay()", x.toPlay(), NONE);
        x.undo();
        due("toPlay()", x.toPlay(), 1);
        x = started(FINESSE, 2, -1);
        playAll(x, 1, 8, 0, 2);
        due("toPlay()", x.toPlay(), 1);
    }

    private static void legal() {
        promise = "promise 7";
        OpenTricks x = started(FINESSE, 2, -1);
        due("legal()", x.legal(), set(1, 3));
        x.play(1);
        due("legal()", x.legal(), set(5, 8));
        x.play(8);
        due("legal()", x.legal(), set(0));
        x.play(0);
        due("legal()", x.legal(), set(2));
        x.play(2);
        due("legal()", x.legal(), set(7));
        playAll(x, 7, 3, 5, 4);
        due("legal()", x.legal(), 0);
        int[][] following = {{0, 4, 8}, {1, 2, 9}, {5, 6, 7}, {3, 10, 11}};
        x = started(following, 0, 1);
        x.play(0);
        due("legal()", x.legal(), set(1, 2));
        x.play(1);
        due("legal()", x.legal(), set(5, 6, 7));
        x.play(6);
        due("legal()", x.legal(), set(3));
        x = started(following, 3, -1);
        due("legal()", x.legal(), set(3, 10, 11));
        x.play(10);
        due("legal()", x.legal(), set(8));
        x.play(8);
        due("legal()", x.legal(), set(9));
    }

    private static void play() {
        promise = "promise 8";
        OpenTricks x = started(FINESSE, 2, -1);
        for (int bad : OUTSIDE) {
            due("play(" + bad + ")", x.play(bad), NONE);
        }
        due("play(-1)", x.play(-1), NONE);
        due("play(0)", x.play(0), NONE);
        due("play(11)", x.play(11), NONE);
        due("play(3)", x.play(3), 1);
        due("play(3)", x.play(3), NONE);
        due("play(1)", x.play(1), NONE);
        hands(x, set(0, 4), set(2, 7), set(1), set(5, 8));
        due("play(5)", x.play(5), 2);
        due("play(4)", x.play(4), NONE);
        due("play(0)", x.play(0), 3);
        due("play(7)", x.play(7), NONE);
        due("play(2)", x.play(2), 4);
        due("play(1)", x.play(1), 1);
        due("play(8)", x.play(8), 2);
        due("play(4)", x.play(4), 3);
        due("play(7)", x.play(7), 4);
        for (int c = 0; c < 12; c++) {
            due("play(" + c + ")", x.play(c), NONE);
        }
        playAll(started(WHOLE, 0, -1), 0, 1, 2, 3, 9, 10, 11, 8, 6, 7, 4, 5);
    }

    private static void winner(int leader, int trump, int winner, int... cards) {
        OpenTricks x = new OpenTricks();
        for (int i = 0; i < 4; i++) {
            x.deal(cards[i], (leader + i) % 4);
        }
        x.start(leader, trump);
        playAll(x, cards);
        String trick = "trick from " + leader + " trump " + trump + ", side ";
        due(trick + "0", x.won(0), winner % 2 == 0 ? 1 : 0);
        due(trick + "1", x.won(1), winner % 2 == 1 ? 1 : 0);

        // A second card each, of other suits than the led one, lets the winner lead once more.
        boolean[] used = new boolean[12];
        for (int c : cards) {
            used[c] = true;
        }
        int next = 0;
        for (int i = 0; i < 4; i++) {
            while (used[next] || next / 4 == cards[0] / 4) {
                next++;
            }
            used[next] = true;
            x.deal(next, (leader + i) % 4);
        }
        x.start(leader, trump);
        playAll(x, cards);
        due(trick + "next leader", x.toPlay(), winner);
    }

    private static void trickWinners() {
        promise = "promise 8, who wins";
        for (int leader = 0; leader < 4; leader++) {
            winner(leader, -1, (leader + 3) % 4, 0, 1, 2, 3);
            winner(leader, -1, leader, 3, 2, 1, 0);
            winner(leader, -1, (leader + 1) % 4, 1, 3, 2, 0);
            winner(leader, -1, (leader + 2) % 4, 4, 5, 7, 6);
            winner(leader, -1, leader, 0, 7, 11, 5);
            winner(leader, -1, (leader + 1) % 4, 8, 9, 3, 7);
            winner(leader, 0, leader, 0, 7, 11, 5);
            winner(leader, 1, (leader + 1) % 4, 0, 7, 11, 5);
            winner(leader, 2, (leader + 2) % 4, 0, 7, 8, 5);
            winner(leader, 1, (leader + 3) % 4, 3, 5, 4, 6);
            winner(leader, 0, (leader + 2) % 4, 11, 10, 0, 9);
            winner(leader, 2, (leader + 3) % 4, 8, 3, 7, 9);
        }
    }

    private static void undo() {
        promise = "promise 9";
        OpenTricks x = started(FINESSE, 2, 2);
        due("undo()", x.undo(), NONE);
        int[] cards = {3, 8, 0, 2, 5, 4, 7, 1};
        String[] before = new String[8];
        for (int i = 0; i < 8; i++) {
            before[i] = questions(x);
            due("play(" + cards[i] + ")", x.play(cards[i]), i % 4 + 1);
        }
        for (int i = 7; i >= 0; i--) {
            due("undo()", x.undo(), cards[i]);
            same("undo()", questions(x), before[i]);
        }
        due("undo()", x.undo(), NONE);
        same("undo()", questions(x), before[0]);
        playAll(x, 1, 8, 0);
        due("undo()", x.undo(), 0);
        due("undo()", x.undo(), 8);
        due("play(5)", x.play(5), 2);
        due("toPlay()", x.toPlay(), 0);
        due("play(0)", x.play(0), 3);
        due("play(2)", x.play(2), 4);
        due("toPlay()", x.toPlay(), 1);
    }

    private static void won() {
        promise = "promise 10";
        OpenTricks x = started(FINESSE, 2, 2);
        int[] cards = {3, 5, 0, 2, 1, 8, 4, 7};
        for (int i = 0; i <= 8; i++) {
            due("won(0)", x.won(0), i < 4 ? 0 : 1);
            due("won(1)", x.won(1), i < 8 ? 0 : 1);
            if (i < 8) {
                x.play(cards[i]);
            }
        }
        for (int bad : OUTSIDE) {
            due("won(" + bad + ")", x.won(bad), BAD_ARG);
        }
        due("won(-1)", x.won(-1), BAD_ARG);
        due("won(2)", x.won(2), BAD_ARG);
        due("won(3)", x.won(3), BAD_ARG);
        x.undo();
        due("won(1)", x.won(1), 0);
        due("won(0)", x.won(0), 1);
    }

    private static void winning() {
        promise = "promise 11";
        OpenTricks x = started(FINESSE, 2, 2);
        due("winning()", x.winning(), NONE);
        x.play(3);
        due("winning()", x.winning(), 2);
        x.play(8);
        due("winning()", x.winning(), 3);
        x.play(0);
        due("winning()", x.winning(), 3);
        x.play(2);
        due("winning()", x.winning(), NONE);
        x.play(5);
        due("winning()", x.winning(), 3);
        x.play(4);
        due("winning()", x.winning(), 3);
        x.play(7);
        due("winning()", x.winning(), 1);
        x.play(1);
        due("winning()", x.winning(), NONE);
        x.undo();
        due("winning()", x.winning(), 1);
        x = started(FINESSE, 2, -1);
        playAll(x, 1, 5);
        due("winning()", x.winning(), 2);
    }

    private static void value() {
        promise = "promise 12";
        due("value(), no trump", started(FINESSE, 2, -1).value(), 2);
        due("value(), trump 2", started(FINESSE, 2, 2).value(), 0);
        OpenTricks x = started(FINESSE, 2, -1);
        x.play(1);
        due("value()", x.value(), 0);
        x.undo();
        due("value()", x.value(), 2);
        playAll(x, 3, 5, 0, 2);
        due("value()", x.value(), 2);
        playAll(x, 1, 8, 4, 7);
        due("value()", x.value(), 2);
        x = started(FINESSE, 2, 2);
        playAll(x, 3, 5);
        due("value()", x.value(), 1);
        x = started(FINESSE, 2, 2);
        playAll(x, 3, 5, 0, 2, 1, 8, 4, 7);
        due("value()", x.value(), 1);
        int[][] top = {{3, 7, 11}, {0, 4, 8}, {2, 6, 10}, {1, 5, 9}};
        for (int leader = 0; leader < 4; leader++) {
            due("value()", started(top, leader, -1).value(), 3);
            due("least()", started(top, leader, -1).least(), 3);
        }
        int[][] bottom = {{0, 4, 8}, {3, 7, 11}, {1, 5, 9}, {2, 6, 10}};
        for (int leader = 0; leader < 4; leader++) {
            due("value()", started(bottom, leader, -1).value(), 0);
        }
    }

    private static void after() {
        promise = "promise 13";
        OpenTricks x = started(FINESSE, 2, -1);
        due("after(1)", x.after(1), 0);
        due("after(3)", x.after(3), 2);
        for (int c : new int[] {0, 2, 4, 5, 6, 7, 8, 9, 10, 11, -1}) {
            due("after(" + c + ")", x.after(c), NONE);
        }
        for (int bad : OUTSIDE) {
            due("after(" + bad + ")", x.after(bad), NONE);
        }
        x = started(FINESSE, 2, 2);
        x.play(3);
        due("after(3)", x.after(3), NONE);
        due("after(5)", x.after(5), 1);
        due("after(8)", x.after(8), 0);
        x.play(5);
        due("after(4)", x.after(4), NONE);
        due("after(0)", x.after(0), 1);
        x.play(0);
        due("after(2)", x.after(2), 1);
        x.play(2);
        playAll(x, 1, 8, 4);
        due("after(7)", x.after(7), 1);
        x.play(7);
        for (int c = 0; c < 12; c++) {
            due("after(" + c + ")", x.after(c), NONE);
        }
    }

    private static void best() {
        promise = "promise 14";
        OpenTricks x = started(FINESSE, 2, -1);
        due("best()", x.best(), 3);
        x.play(3);
        due("best()", x.best(), 5);
        x.play(8);
        due("best()", x.best(), 0);
        x.play(0);
        due("best()", x.best(), 2);
        x = started(FINESSE, 2, -1);
        playAll(x, 3, 8, 0, 2, 1, 5, 4, 7);
        due("best()", x.best(), NONE);
        x = started(FINESSE, 2, 2);
        due("best()", x.best(), 1);
        x.play(3);
        due("best()", x.best(), 8);
        x.play(5);
        due("best()", x.best(), 0);
        // The same cards one seat on: side 1 has the choice.
        int[][] turned = {FINESSE[3], FINESSE[0], FINESSE[1], FINESSE[2]};
        x = started(turned, 3, -1);
        due("value()", x.value(), 0);
        due("best()", x.best(), 3);
        due("after(1)", x.after(1), 2);
        x = started(turned, 3, 2);
        x.play(3);
        due("value()", x.value(), 2);
        due("best()", x.best(), 8);
        due("after(5)", x.after(5), 1);
    }

    private static void least() {
        promise = "promise 15";
        OpenTricks x = started(FINESSE, 2, -1);
        due("least()", x.least(), 0);
        x.play(3);
        due("least()", x.least(), 2);
        x = started(FINESSE, 2, 2);
        playAll(x, 3, 5);
        due("least()", x.least(), 1);
        x.undo();
        due("least()", x.least(), 0);
        x = started(FINESSE, 2, -1);
        playAll(x, 3, 5, 0, 2, 1, 8, 4, 7);
        due("least()", x.least(), 2);
        // Side 1 leads here: card 1 would give tricks away, card 3 keeps both.
        int[][] turned = {FINESSE[3], FINESSE[0], FINESSE[1], FINESSE[2]};
        due("least()", started(turned, 3, -1).least(), 0);
    }

    private static void courses() {
        promise = "promise 16";
        OpenTricks x = started(FINESSE, 2, -1);
        due("courses()", x.courses(), 4);
        x.play(3);
        due("courses()", x.courses(), 2);
        x.play(8);
        due("courses()", x.courses(), 1);
        x = started(FINESSE, 2, -1);
        playAll(x, 3, 5, 0, 2, 1, 8, 4, 7);
        due("courses()", x.courses(), 1);
        x.undo();
        due("courses()", x.courses(), 1);
        // Everybody holds one suit alone, so nobody is ever bound in their choice.
        int[][] free = {{0, 1}, {4, 5}, {8, 9}, {2, 3}};
        due("courses()", started(free, 0, -1).courses(), 16);
        due("courses()", started(free, 2, 1).courses(), 16);
        int[][] long3 = {{0, 1, 2}, {4, 5, 6}, {8, 9, 10}, {3, 7, 11}};
        // Player 3 must play card 3 to the first trick, wins it and all others, and so has only
        // the order of 7 and 11 to choose; each of the others plays three cards in any order.
        due("courses()", started(long3, 0, -1).courses(), 432);
    }

    private static void orderAndLimits() {
        promise = "promise 17";
        OpenTricks x = new OpenTricks();
        due("won(2)", x.won(2), BAD_ARG);
        due("won(-1)", x.won(-1), BAD_ARG);
        for (int bad : OUTSIDE) {
            due("won(" + bad + ")", x.won(bad), BAD_ARG);
            due("play(" + bad + ")", x.play(bad), OFF);
            due("after(" + bad + ")", x.after(bad), OFF);
        }
        playIsOff(x);
        x = dealt(WHOLE);
        due("deal(12, 0)", x.deal(12, 0), BAD_ARG);
        due("deal(1, 0)", x.deal(1, 0), FULL);
        playIsOff(x);
        x.deal(0, -1);
        due("start(4, 0)", x.start(4, 0), BAD_ARG);
        due("start(0, 3)", x.start(0, 3), BAD_ARG);
        due("start(0, 0)", x.start(0, 0), NONE);
        playIsOff(x);
    }

    private static void refusalsChangeNothing() {
        promise = "promise 17, refused calls in play";
        int[] cards = {0, 1, 2, 3, 9, 10, 11, 8, 6, 7, 4, 5};
        for (int played = 0; played <= 12; played++) {
            OpenTricks x = started(WHOLE, 0, -1);
            playAll(x, java.util.Arrays.copyOf(cards, played));
            String before = questions(x);
            due("deal(12, 0)", x.deal(12, 0), BAD_ARG);
            due("deal(-1, -1)", x.deal(-1, -1), BAD_ARG);
            due("deal(0, 4)", x.deal(0, 4), BAD_ARG);
            due("deal(0, -2)", x.deal(0, -2), BAD_ARG);
            due("deal(0, 1)", x.deal(0, 1), FULL);
            due("start(4, 0)", x.start(4, 0), BAD_ARG);
            due("start(-1, 0)", x.start(-1, 0), BAD_ARG);
            due("start(1, 3)", x.start(1, 3), BAD_ARG);
            due("start(1, -2)", x.start(1, -2), BAD_ARG);
            due("play(12)", x.play(12), NONE);
            due("after(12)", x.after(12), NONE);
            due("won(2)", x.won(2), BAD_ARG);
            due("hand(4)", x.hand(4), BAD_ARG);
            for (int c = 0; c < 12; c++) {
                if ((x.legal() >> c & 1) == 0) {
                    due("play(" + c + ")", x.play(c), NONE);
                }
            }
            same("refused calls", questions(x), before);
            for (int i = played - 1; i >= 0; i--) {
                due("undo()", x.undo(), cards[i]);
            }
            due("undo()", x.undo(), NONE);
        }
    }

    private static void questionsChangeNothing() {
        promise = "promises 12 to 16, asked twice";
        OpenTricks x = started(WHOLE, 0, -1);
        for (int c : new int[] {0, 1, 2, 3, 9, 10, 11, 8, 6, 7, 4, 5}) {
            String before = questions(x);
            same("questions", questions(x), before);
            x.play(c);
        }
    }
}
