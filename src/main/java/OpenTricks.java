public final class OpenTricks {
    public static final int BAD_ARG = -1;
    public static final int FULL = -2;
    public static final int OFF = -3;
    public static final int NONE = -4;

    private static final int CARDS = 12;
    private static final int SUIT_CARDS = 4;
    private static final int SUITS = 3;
    private static final int SUIT_MASK = 15;
    private static final int PLAYERS = 4;
    private static final int SIDES = 2;
    private static final int HAND_MOST = 3;

    // Before the first card there is a situation too, and after the last trick a winner.
    private static final int SITUATIONS = CARDS + 1;
    private static final int LEADS = HAND_MOST + 1;

    // Three cards each can be ordered in at most 6 * 6 * 6 * 6 ways, so a search
    // takes some sixteen thousand steps at most.
    private static final int STEPS_MOST = 1000000;

    // Play never changes dealt, it only marks cards as gone: so the end of play
    // gives every player back what they held when it began.
    private final int[] dealt = new int[PLAYERS];
    private int gone = 0;

    private boolean on = false;
    private int trumpSuit = -1;
    private final int[] played = new int[CARDS];
    private int plays = 0;

    // Who leads each trick. The winner of a trick leads the next one, so this
    // also tells who won, and taking a card back needs no counts mended.
    private final int[] leaders = new int[LEADS];

    // The search keeps one row for each number of cards played.
    private final int[] untried = new int[SITUATIONS];
    private final int[] values = new int[SITUATIONS];
    private final int[] choices = new int[SITUATIONS];
    private final int[] leasts = new int[SITUATIONS];
    private final int[] ways = new int[SITUATIONS];

    public OpenTricks() {
    }

    public int deal(int c, int p) {
        if (c < 0 || c >= CARDS || p < -1 || p >= PLAYERS) {
            return BAD_ARG;
        }
        int card = 1 << c;
        // A player who is given a card that they hold already holds no more than before.
        if (p >= 0 && size(dealt[p] & ~card) >= HAND_MOST) {
            return FULL;
        }
        endPlay();
        for (int q = 0; q < PLAYERS; q++) {
            dealt[q] &= ~card;
        }
        if (p >= 0) {
            dealt[p] |= card;
        }
        return size(dealt[0] | dealt[1] | dealt[2] | dealt[3]);
    }

    public void clear() {
        endPlay();
        for (int p = 0; p < PLAYERS; p++) {
            dealt[p] = 0;
        }
    }

    public int hand(int p) {
        return p < 0 || p >= PLAYERS ? BAD_ARG : held(p);
    }

    public int start(int leader, int trump) {
        if (leader < 0 || leader >= PLAYERS || trump < -1 || trump >= SUITS) {
            return BAD_ARG;
        }
        int each = size(dealt[0]);
        if (each == 0) {
            return NONE;
        }
        for (int p = 1; p < PLAYERS; p++) {
            int cards = size(dealt[p]);
            if (cards != each) {
                return NONE;
            }
        }
        endPlay();
        on = true;
        leaders[0] = leader;
        trumpSuit = trump;
        return each;
    }

    public int toPlay() {
        if (!on) {
            return OFF;
        }
        return legalCards() == 0 ? NONE : turn();
    }

    public int legal() {
        return on ? legalCards() : OFF;
    }

    public int play(int c) {
        if (!on) {
            return OFF;
        }
        if (!mayBePlayed(c)) {
            return NONE;
        }
        put(c);
        return (plays - 1) % PLAYERS + 1;
    }

    public int undo() {
        if (!on) {
            return OFF;
        }
        return plays == 0 ? NONE : takeBack();
    }

    public int won(int s) {
        if (s < 0 || s >= SIDES) {
            return BAD_ARG;
        }
        return on ? tricksWon(s) : OFF;
    }

    public int winning() {
        if (!on) {
            return OFF;
        }
        return plays % PLAYERS == 0 ? NONE : topPlayer(plays / PLAYERS);
    }

    public int value() {
        if (!on) {
            return OFF;
        }
        explore();
        return values[plays];
    }

    public int after(int c) {
        if (!on) {
            return OFF;
        }
        if (!mayBePlayed(c)) {
            return NONE;
        }
        put(c);
        explore();
        int value = values[plays];
        takeBack();
        return value;
    }

    public int best() {
        if (!on) {
            return OFF;
        }
        explore();
        return choices[plays];
    }

    public int least() {
        if (!on) {
            return OFF;
        }
        explore();
        return leasts[plays];
    }

    public int courses() {
        if (!on) {
            return OFF;
        }
        explore();
        return ways[plays];
    }

    private void endPlay() {
        on = false;
        gone = 0;
        plays = 0;
    }

    private int size(int set) {
        int cards = 0;
        for (int c = 0; c < CARDS; c++) {
            cards += (set >> c) & 1;
        }
        return cards;
    }

    private int lowestCard(int set) {
        for (int c = 0; c < CARDS; c++) {
            if (((set >> c) & 1) == 1) {
                return c;
            }
        }
        return NONE;
    }

    private int held(int p) {
        return dealt[p] & ~gone;
    }

    private int turn() {
        return (leaders[plays / PLAYERS] + plays % PLAYERS) % PLAYERS;
    }

    private int legalCards() {
        int p = turn();
        int cards = held(p);
        int inTrick = plays % PLAYERS;
        if (inTrick == 0) {
            return cards;
        }
        int led = played[plays - inTrick] / SUIT_CARDS;
        int following = cards & (SUIT_MASK << (led * SUIT_CARDS));
        return following == 0 ? cards : following;
    }

    private boolean mayBePlayed(int c) {
        // A shift by 32 or more wraps round, so the range is looked at first.
        return c >= 0 && c < CARDS && ((legalCards() >> c) & 1) == 1;
    }

    private void put(int c) {
        gone |= 1 << c;
        played[plays] = c;
        plays++;
        if (plays % PLAYERS == 0) {
            int trick = plays / PLAYERS;
            leaders[trick] = topPlayer(trick - 1);
        }
    }

    private int takeBack() {
        plays--;
        int c = played[plays];
        gone &= ~(1 << c);
        return c;
    }

    private int topPlayer(int trick) {
        int first = trick * PLAYERS;
        int top = first;
        for (int i = first + 1; i < first + PLAYERS && i < plays; i++) {
            if (beats(played[i], played[top])) {
                top = i;
            }
        }
        return (leaders[trick] + top - first) % PLAYERS;
    }

    // The card to beat is always of the led suit or a trump, so a card of any
    // third suit never wins.
    private boolean beats(int c, int top) {
        int suit = c / SUIT_CARDS;
        return suit == top / SUIT_CARDS ? c > top : suit == trumpSuit;
    }

    private int tricksWon(int side) {
        int tricks = 0;
        for (int trick = 1; trick <= plays / PLAYERS; trick++) {
            if (leaders[trick] % SIDES == side) {
                tricks++;
            }
        }
        return tricks;
    }

    // Goes through every course from the situation as it is, and back to it; then
    // the rows at plays tell its value, best card, least result and courses.
    private void explore() {
        int base = plays;
        enter();
        for (int step = 0; step < STEPS_MOST; step++) {
            int c = lowestCard(untried[plays]);
            if (c != NONE) {
                untried[plays] &= ~(1 << c);
                put(c);
                enter();
            } else if (plays > base) {
                leave();
            } else {
                break;
            }
        }
    }

    private void enter() {
        int cards = legalCards();
        untried[plays] = cards;
        choices[plays] = NONE;
        if (cards == 0) {
            int result = tricksWon(0);
            values[plays] = result;
            leasts[plays] = result;
            ways[plays] = 1;
        } else {
            // Worse for whoever chooses than any result, so that the first card tried is taken.
            values[plays] = turn() % SIDES == 0 ? -1 : HAND_MOST + 1;
            leasts[plays] = HAND_MOST + 1;
            ways[plays] = 0;
        }
    }

    private void leave() {
        int value = values[plays];
        int least = leasts[plays];
        int courses = ways[plays];
        int c = takeBack();
        boolean better = turn() % SIDES == 0 ? value > values[plays] : value < values[plays];
        // Cards are tried from the least on, so of equals the least stays chosen.
        if (better) {
            values[plays] = value;
            choices[plays] = c;
        }
        if (least < leasts[plays]) {
            leasts[plays] = least;
        }
        ways[plays] += courses;
    }
}
