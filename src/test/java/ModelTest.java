import java.util.ArrayDeque;
import java.util.ArrayList;
import java.util.List;

/**
 * Many machines, each made by a fixed row of numbers, against a model that follows the document's
 * words: words are strings, and two words are told apart by a search over pairs of states. No object
 * is called more than 512 times: what it answers after that is free.
 */
public final class ModelTest {
    private static final int STATES = 7;
    private static final Checks c = new Checks();
    private static long seed = 20261115L;

    private final int[][] to = new int[STATES][2];
    private final boolean[] good = new boolean[STATES];
    private final List<String> firsts = new ArrayList<>();

    public static void main(String[] args) {
        for (int run = 0; run < 3000; run++) {
            oneLife(run);
        }
        for (int run = 0; run < 60; run++) {
            everyWord(run);
        }
        c.end("ModelTest");
    }

    private static int pick(int below) {
        seed = seed * 6364136223846793005L + 1442695040888963407L;
        return (int) ((seed >>> 33) % below);
    }

    private ModelTest() {
        for (int s = 0; s < STATES; s++) {
            to[s][0] = s;
            to[s][1] = s;
        }
    }

    /** Changes and questions mixed, up to the 512 calls that an object is good for. */
    private static void oneLife(int run) {
        LearnDesk x = new LearnDesk();
        ModelTest m = new ModelTest();
        m.findFirsts();
        int changes = 1 + pick(32);
        for (int i = 0; i < changes; i++) {
            m.change(run, x);
            if (i % 4 == 0) {
                m.compareSome(run, x);
            }
        }
        m.compareSome(run, x);
    }

    private static void everyWord(int run) {
        ModelTest m = new ModelTest();
        m.makeChainLike(run);
        m.findFirsts();
        LearnDesk x = m.newDesk(run);
        m.compareKinds("every word " + run, x);
        for (int word = 1; word <= 4095; word++) {
            x = word % 128 == 0 ? m.newDesk(run) : x;
            int end = m.end(0, letters(word));
            c.due("every word " + run + ": ask " + word, x.ask(word), m.good[end] ? 1 : 0);
            c.due("every word " + run + ": kind " + word, x.kind(word), m.kindOf(end));
        }
        for (int word = 1; word <= 127; word++) {
            x = m.newDesk(run);
            for (int other = 1; other <= 127; other++) {
                m.compareDifference("every word " + run, x, word, other);
            }
        }
    }

    private LearnDesk newDesk(int run) {
        LearnDesk x = new LearnDesk();
        for (int s = 0; s < STATES; s++) {
            setArrow(run, x, s, 0, to[s][0]);
            setArrow(run, x, s, 1, to[s][1]);
            setGood(run, x, s, good[s]);
        }
        return x;
    }

    /** Machines near to a chain have many kinds and long differences; even choices seldom do. */
    private void makeChainLike(int run) {
        for (int s = 0; s < STATES; s++) {
            int onward = pick(2);
            to[s][onward] = s < 6 ? s + 1 : pick(STATES);
            to[s][1 - onward] = run % 2 == 0 ? s : pick(s + 1);
        }
        good[pick(3) == 0 ? pick(STATES) : 6] = true;
    }

    private void change(int run, LearnDesk x) {
        int what = pick(10);
        if (what < 6) {
            setArrow(run, x, pick(STATES), pick(2), pick(STATES));
        } else if (what < 8) {
            setGood(run, x, pick(STATES), pick(2) == 0);
        } else if (what == 8) {
            c.due("life " + run + ": arrow refused", x.arrow(pick(STATES), pick(2), 7 + pick(100)), -1);
        } else {
            c.due("life " + run + ": good refused", x.good(-1 - pick(100), pick(2) == 0), -1);
        }
        findFirsts();
    }

    private void setArrow(int run, LearnDesk x, int from, int letter, int end) {
        int disguise = letter + 2 * (pick(2001) - 1000);
        c.due("run " + run + ": arrow", x.arrow(from, disguise, end), 0);
        to[from][letter] = end;
    }

    private void setGood(int run, LearnDesk x, int state, boolean is) {
        c.due("run " + run + ": good", x.good(state, is), 0);
        good[state] = is;
    }

    private void compareSome(int run, LearnDesk x) {
        compareKinds("life " + run, x);
        for (int i = 0; i < 3; i++) {
            int word = 1 + pick(4095);
            int other = 1 + pick(pick(2) == 0 ? 4095 : 15);
            int end = end(0, letters(word));
            c.due("life " + run + ": ask " + word, x.ask(word), good[end] ? 1 : 0);
            c.due("life " + run + ": kind " + word, x.kind(word), kindOf(end));
            compareDifference("life " + run, x, word, other);
        }
    }

    private void compareKinds(String run, LearnDesk x) {
        c.due(run + ": kinds", x.kinds(), firsts.size());
        for (int kind = -1; kind <= STATES; kind++) {
            boolean is = kind >= 0 && kind < firsts.size();
            int state = is ? end(0, firsts.get(kind)) : 0;
            c.due(run + ": first " + kind, x.first(kind), is ? number(firsts.get(kind)) : -1);
            c.due(run + ": isGood " + kind, x.isGood(kind), !is ? -1 : good[state] ? 1 : 0);
            for (int letter = 0; letter < 2; letter++) {
                c.due(run + ": next " + kind + " " + letter, x.next(kind, letter), is ? kindOf(to[state][letter]) : -1);
            }
        }
    }

    private void compareDifference(String run, LearnDesk x, int word, int other) {
        String tells = tellsApart(end(0, letters(word)), end(0, letters(other)));
        int want = tells == null ? 0 : number(tells);
        c.due(run + ": difference " + word + " " + other, x.difference(word, other), want);
    }

    private static String letters(int word) {
        return Integer.toBinaryString(word).substring(1);
    }

    private static int number(String letters) {
        return Integer.parseInt("1" + letters, 2);
    }

    private int end(int from, String letters) {
        int state = from;
        for (char letter : letters.toCharArray()) {
            state = to[state][letter - '0'];
        }
        return state;
    }

    /** All words in the document's order, as far as the seven states can need. */
    private void findFirsts() {
        firsts.clear();
        boolean[] seen = new boolean[STATES];
        for (int word = 1; word <= 255; word++) {
            int end = end(0, letters(word));
            if (!seen[end]) {
                seen[end] = true;
                if (kindOf(end) < 0) {
                    firsts.add(letters(word));
                }
            }
        }
    }

    private int kindOf(int state) {
        for (int kind = 0; kind < firsts.size(); kind++) {
            if (tellsApart(end(0, firsts.get(kind)), state) == null) {
                return kind;
            }
        }
        return -1;
    }

    /** The first word, in the document's order, that is good from one state alone; null if none. */
    private String tellsApart(int a, int b) {
        boolean[][] seen = new boolean[STATES][STATES];
        ArrayDeque<String> waiting = new ArrayDeque<>();
        waiting.add("");
        seen[a][b] = true;
        while (!waiting.isEmpty()) {
            String letters = waiting.remove();
            int endA = end(a, letters);
            int endB = end(b, letters);
            if (good[endA] != good[endB]) {
                return letters;
            }
            for (int letter = 0; letter < 2; letter++) {
                int nextA = to[endA][letter];
                int nextB = to[endB][letter];
                if (!seen[nextA][nextB]) {
                    seen[nextA][nextB] = true;
                    waiting.add(letters + letter);
                }
            }
        }
        return null;
    }
}
