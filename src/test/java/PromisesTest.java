/**
 * Each promise of the document by itself, with answers worked out by hand. No object is called more
 * than 512 times: what it answers after that is free.
 */
public final class PromisesTest {
    private static final int[] NO_STATES = {-1, 7, 8, 14, -7, Integer.MIN_VALUE, Integer.MAX_VALUE};
    private static final int[] NO_WORDS = {0, -1, -2, -4095, 4096, 8191, Integer.MIN_VALUE, Integer.MAX_VALUE};
    private static final Checks c = new Checks();

    public static void main(String[] args) {
        promise1NewObject();
        promise1ObjectsAreApart();
        promise2Arrow();
        promise2ArrowRefuses();
        promise3Good();
        promise3GoodRefuses();
        promise4Ask();
        promise5Kinds();
        promise5UnreachedStates();
        promise6Kind();
        promise7First();
        promise7LongestFirst();
        promise8Next();
        promise9IsGood();
        promise10Difference();
        promise10LongestDifference();
        promise10SeveralAsShort();
        questionsChangeNothing();
        fullLifeOf512Calls();
        c.end("PromisesTest");
    }

    /** Letter 1 goes one state on, up to state 'last', where it stays; letter 0 stays everywhere. */
    private static LearnDesk counterOfOnes(int last) {
        LearnDesk x = new LearnDesk();
        for (int s = 0; s < last; s++) {
            x.arrow(s, 1, s + 1);
        }
        return x;
    }

    /** Good are the words with 101 in them; kinds: 0 nothing, 1 after 1, 2 after 10, 3 found. */
    private static LearnDesk finderOf101() {
        LearnDesk x = new LearnDesk();
        x.arrow(0, 1, 1);
        x.arrow(1, 0, 2);
        x.arrow(2, 0, 0);
        x.arrow(2, 1, 3);
        x.good(3, true);
        return x;
    }

    private static void promise1NewObject() {
        LearnDesk x = new LearnDesk();
        for (int word = 1; word <= 4095; word++) {
            x = word % 128 == 0 ? new LearnDesk() : x;
            c.due("new: ask " + word, x.ask(word), 0);
            c.due("new: kind " + word, x.kind(word), 0);
        }
        c.due("new: kinds", x.kinds(), 1);
        c.due("new: first 0", x.first(0), 1);
        c.due("new: isGood 0", x.isGood(0), 0);
        c.due("new: next 0 0", x.next(0, 0), 0);
        c.due("new: next 0 1", x.next(0, 1), 0);
        c.due("new: difference", x.difference(1, 4095), 0);
        // Every state leads back to itself: state s, once reached, is left by no letter.
        for (int s = 1; s < 7; s++) {
            LearnDesk y = new LearnDesk();
            y.arrow(0, 1, s);
            y.good(s, true);
            c.due("new: loops of " + s + ", word 1", y.ask(3), 1);
            c.due("new: loops of " + s + ", word 10", y.ask(6), 1);
            c.due("new: loops of " + s + ", word 11", y.ask(7), 1);
            c.due("new: loops of " + s + ", word 0", y.ask(2), 0);
        }
    }

    private static void promise1ObjectsAreApart() {
        LearnDesk x = new LearnDesk();
        LearnDesk y = new LearnDesk();
        x.arrow(0, 0, 1);
        x.good(1, true);
        c.due("apart: kinds of the changed one", x.kinds(), 2);
        c.due("apart: kinds of the other", y.kinds(), 1);
        c.due("apart: ask of the other", y.ask(2), 0);
    }

    private static void promise2Arrow() {
        LearnDesk x = new LearnDesk();
        c.due("arrow 0 0 6", x.arrow(0, 0, 6), 0);
        c.due("arrow 6 1 3", x.arrow(6, 1, 3), 0);
        x.good(3, true);
        c.due("arrow: 01", x.ask(5), 1);
        c.due("arrow: 00", x.ask(4), 0);
        c.due("arrow: 1", x.ask(3), 0);
        c.due("arrow again 6 1 6", x.arrow(6, 1, 6), 0);
        c.due("arrow again: 01", x.ask(5), 0);
        // Only the lowest bit of the letter counts.
        int[] zeros = {0, 2, -2, 100, Integer.MIN_VALUE};
        int[] ones = {1, 3, -1, 101, Integer.MAX_VALUE};
        for (int i = 0; i < zeros.length; i++) {
            LearnDesk y = new LearnDesk();
            y.good(1, true);
            c.due("arrow letter " + zeros[i], y.arrow(0, zeros[i], 1), 0);
            c.due("arrow letter " + zeros[i] + ": 0", y.ask(2), 1);
            c.due("arrow letter " + zeros[i] + ": 1", y.ask(3), 0);
            y = new LearnDesk();
            y.good(1, true);
            c.due("arrow letter " + ones[i], y.arrow(0, ones[i], 1), 0);
            c.due("arrow letter " + ones[i] + ": 0", y.ask(2), 0);
            c.due("arrow letter " + ones[i] + ": 1", y.ask(3), 1);
        }
    }

    private static void promise2ArrowRefuses() {
        for (int bad : NO_STATES) {
            for (int letter = 0; letter < 2; letter++) {
                LearnDesk x = finderOf101();
                String what = "arrow refused, " + bad + " letter " + letter;
                c.due(what + " from", x.arrow(bad, letter, 3), -1);
                c.due(what + " to", x.arrow(0, letter, bad), -1);
                c.due(what + " both", x.arrow(bad, letter, bad), -1);
                staysFinderOf101(what, x);
            }
        }
    }

    private static void staysFinderOf101(String what, LearnDesk x) {
        for (int word = 1; word <= 255; word++) {
            asksFinderOf101(what, x, word);
        }
        c.due(what + ": kinds", x.kinds(), 4);
    }

    private static void asksFinderOf101(String what, LearnDesk x, int word) {
        boolean found = Integer.toBinaryString(word).substring(1).contains("101");
        c.due(what + ": ask " + word, x.ask(word), found ? 1 : 0);
    }

    private static void promise3Good() {
        LearnDesk x = counterOfOnes(6);
        int onesOfState = 1;
        for (int s = 0; s < 7; s++) {
            c.due("good " + s, x.good(s, true), 0);
            c.due("good " + s + ": ask", x.ask(onesOfState), 1);
            c.due("good " + s + " again", x.good(s, true), 0);
            c.due("good " + s + " again: ask", x.ask(onesOfState), 1);
            c.due("good " + s + ": isGood", x.isGood(x.kind(onesOfState)), 1);
            c.due("not good " + s, x.good(s, false), 0);
            c.due("not good " + s + ": ask", x.ask(onesOfState), 0);
            c.due("not good " + s + ": kinds", x.kinds(), 1);
            onesOfState = 2 * onesOfState + 1;
        }
    }

    private static void promise3GoodRefuses() {
        for (int bad : NO_STATES) {
            LearnDesk x = finderOf101();
            c.due("good refused, " + bad, x.good(bad, true), -1);
            c.due("not good refused, " + bad, x.good(bad, false), -1);
            staysFinderOf101("good refused, " + bad, x);
        }
    }

    private static void promise4Ask() {
        LearnDesk finder = finderOf101();
        for (int word = 1; word <= 4095; word++) {
            finder = word % 128 == 0 ? finderOf101() : finder;
            asksFinderOf101("ask", finder, word);
        }
        // The letters are gone over from the left: 10 is good, 01 is not.
        LearnDesk x = new LearnDesk();
        x.arrow(0, 1, 1);
        x.arrow(1, 0, 2);
        x.arrow(0, 0, 3);
        x.good(2, true);
        c.due("ask 10", x.ask(6), 1);
        c.due("ask 01", x.ask(5), 0);
        x.good(0, true);
        c.due("ask the empty word", x.ask(1), 1);
        // Eleven letters: an even number of them is good, and 4095 has eleven.
        LearnDesk even = new LearnDesk();
        even.arrow(0, 0, 1);
        even.arrow(0, 1, 1);
        even.arrow(1, 0, 0);
        even.arrow(1, 1, 0);
        even.good(0, true);
        c.due("ask 11 letters, 4095", even.ask(4095), 0);
        c.due("ask 11 letters, 2048", even.ask(2048), 0);
        c.due("ask 10 letters, 2047", even.ask(2047), 1);
        for (int bad : NO_WORDS) {
            c.due("ask " + bad, even.ask(bad), -1);
        }
    }

    private static void promise5Kinds() {
        for (int last = 0; last < 7; last++) {
            LearnDesk x = counterOfOnes(last);
            c.due("kinds, none good, " + last, x.kinds(), 1);
            x.good(last, true);
            c.due("kinds, the last good, " + last, x.kinds(), last + 1);
            for (int s = 0; s < last; s++) {
                x.good(s, true);
            }
            c.due("kinds, all good, " + last, x.kinds(), 1);
        }
        LearnDesk ring = new LearnDesk();
        for (int s = 0; s < 6; s++) {
            ring.arrow(s, 0, (s + 1) % 6);
            ring.arrow(s, 1, (s + 1) % 6);
        }
        ring.good(0, true);
        c.due("kinds, ring of 6, one good", ring.kinds(), 6);
        ring.good(3, true);
        c.due("kinds, ring of 6, every third good", ring.kinds(), 3);
        ring.good(3, false);
        ring.good(2, true);
        ring.good(4, true);
        c.due("kinds, ring of 6, every second good", ring.kinds(), 2);
    }

    private static void promise5UnreachedStates() {
        LearnDesk x = new LearnDesk();
        x.arrow(3, 0, 4);
        x.arrow(3, 1, 5);
        x.good(4, true);
        c.due("kinds, unreached states", x.kinds(), 1);
        c.due("first 1, unreached states", x.first(1), -1);
        x.arrow(0, 1, 3);
        // Now: the empty word, 1 (state 3), 10 (good for ever); 11 stays not good, unlike the others.
        c.due("kinds, states reached", x.kinds(), 4);
        c.due("first 3, states reached", x.first(3), 7);
        x.arrow(0, 1, 0);
        c.due("kinds, unreached again", x.kinds(), 1);
    }

    private static void promise6Kind() {
        LearnDesk x = finderOf101();
        for (int word = 1; word <= 4095; word++) {
            x = word % 128 == 0 ? finderOf101() : x;
            String letters = Integer.toBinaryString(word).substring(1);
            int want = letters.contains("101") ? 3 : letters.endsWith("1") ? 1 : letters.endsWith("10") ? 2 : 0;
            c.due("kind " + word, x.kind(word), want);
        }
        for (int bad : NO_WORDS) {
            c.due("kind " + bad, x.kind(bad), -1);
        }
        // 0 ends in state 5 and 1 in state 2, but numbers go by first words, not by states.
        LearnDesk y = new LearnDesk();
        y.arrow(0, 0, 5);
        y.arrow(0, 1, 2);
        y.good(2, true);
        c.due("kind of 0, by words", y.kind(2), 1);
        c.due("kind of 1, by words", y.kind(3), 2);
        // Two states that are alike are one kind: 00 and 11 end in 3 and 4, both good for ever.
        LearnDesk z = new LearnDesk();
        z.arrow(0, 0, 1);
        z.arrow(0, 1, 2);
        z.arrow(1, 0, 3);
        z.arrow(2, 1, 4);
        z.good(3, true);
        z.good(4, true);
        c.due("alike states: kinds", z.kinds(), 4);
        c.due("alike states: kind of 00", z.kind(4), 3);
        c.due("alike states: kind of 11", z.kind(7), 3);
    }

    private static void promise7First() {
        LearnDesk x = finderOf101();
        int[] want = {1, 3, 6, 13};
        for (int kind = 0; kind < want.length; kind++) {
            c.due("first " + kind, x.first(kind), want[kind]);
        }
        for (int bad : new int[] {-1, 4, 5, 6, 7, 8, Integer.MIN_VALUE, Integer.MAX_VALUE}) {
            c.due("first " + bad, x.first(bad), -1);
        }
        // Of 01 and 10, both shortest in their kind, 01 is first.
        LearnDesk y = new LearnDesk();
        y.arrow(0, 0, 1);
        y.arrow(0, 1, 2);
        y.arrow(1, 1, 3);
        y.arrow(2, 0, 3);
        y.arrow(2, 1, 4);
        y.good(3, true);
        y.good(2, true);
        y.arrow(3, 0, 4);
        y.arrow(3, 1, 4);
        c.due("first of 01 and 10", y.first(y.kind(6)), 5);
        c.due("kind of 01 and 10", y.kind(5), y.kind(6));
    }

    private static void promise7LongestFirst() {
        LearnDesk x = counterOfOnes(6);
        x.good(6, true);
        int ones = 1;
        for (int kind = 0; kind < 7; kind++) {
            c.due("first, ones, " + kind, x.first(kind), ones);
            ones = 2 * ones + 1;
        }
        c.due("first, seven kinds, 7", x.first(7), -1);
        for (int s = 0; s < 6; s++) {
            x.arrow(s, 0, s + 1);
        }
        for (int kind = 0; kind < 7; kind++) {
            c.due("first, zeros, " + kind, x.first(kind), 1 << kind);
        }
    }

    private static void promise8Next() {
        LearnDesk x = finderOf101();
        int[] want = {0, 1, 2, 1, 0, 3, 3, 3};
        for (int kind = 0; kind < 4; kind++) {
            for (int letter : new int[] {0, 2, -2, Integer.MIN_VALUE}) {
                c.due("next " + kind + " " + letter, x.next(kind, letter), want[2 * kind]);
            }
            for (int letter : new int[] {1, 3, -1, Integer.MAX_VALUE}) {
                c.due("next " + kind + " " + letter, x.next(kind, letter), want[2 * kind + 1]);
            }
        }
        for (int bad : new int[] {-1, 4, 5, 6, 7, Integer.MIN_VALUE, Integer.MAX_VALUE}) {
            c.due("next " + bad + " 0", x.next(bad, 0), -1);
            c.due("next " + bad + " 1", x.next(bad, 1), -1);
        }
    }

    private static void promise9IsGood() {
        LearnDesk x = finderOf101();
        int[] want = {0, 0, 0, 1};
        for (int kind = 0; kind < 4; kind++) {
            c.due("isGood " + kind, x.isGood(kind), want[kind]);
        }
        for (int bad : new int[] {-1, 4, 5, 6, 7, Integer.MIN_VALUE, Integer.MAX_VALUE}) {
            c.due("isGood " + bad, x.isGood(bad), -1);
        }
        x.good(1, true);
        c.due("isGood 1, made good", x.isGood(1), 1);
        c.due("isGood 0, still not", x.isGood(0), 0);
        // Kind 1 is that of the word 0, which ends in state 5; state 1 is never reached.
        LearnDesk y = new LearnDesk();
        y.arrow(0, 0, 5);
        y.good(5, true);
        c.due("isGood 1, of state 5", y.isGood(1), 1);
        y.good(0, true);
        y.good(1, true);
        y.good(5, false);
        c.due("isGood 1, of state 5, not state 1", y.isGood(1), 0);
    }

    private static void promise10Difference() {
        LearnDesk x = finderOf101();
        c.due("difference of the empty word and 1", x.difference(1, 3), 5);
        c.due("difference of 1 and the empty word", x.difference(3, 1), 5);
        c.due("difference of 1 and 10", x.difference(3, 6), 3);
        c.due("difference of the empty word and 10", x.difference(1, 6), 3);
        c.due("difference of 10 and 101", x.difference(6, 13), 1);
        c.due("difference of a word and itself", x.difference(4095, 4095), 0);
        c.due("difference of 1 and 11", x.difference(3, 7), 0);
        c.due("difference of the empty word and 100", x.difference(1, 12), 0);
        for (int bad : NO_WORDS) {
            c.due("difference " + bad + " 1", x.difference(bad, 1), -1);
            c.due("difference 1 " + bad, x.difference(1, bad), -1);
            c.due("difference " + bad + " twice", x.difference(bad, bad), -1);
        }
    }

    private static void promise10LongestDifference() {
        LearnDesk x = counterOfOnes(6);
        x.good(6, true);
        // The empty word needs six more 1s and the word 1 five, so five 1s tell them apart.
        c.due("difference 11111", x.difference(1, 3), 63);
        c.due("difference 1111", x.difference(3, 7), 31);
        c.due("difference of 111111 and 1111111", x.difference(127, 255), 0);
        for (int s = 0; s < 6; s++) {
            x.arrow(s, 0, s + 1);
            x.arrow(s, 1, s);
        }
        c.due("difference 00000", x.difference(1, 2), 32);
    }

    private static void promise10SeveralAsShort() {
        // From 1 both 01 and 10 are good, from 0 no word is: 01 comes first.
        LearnDesk x = new LearnDesk();
        x.arrow(0, 0, 5);
        x.arrow(0, 1, 1);
        x.arrow(1, 0, 2);
        x.arrow(1, 1, 3);
        x.arrow(2, 0, 5);
        x.arrow(2, 1, 4);
        x.arrow(3, 0, 4);
        x.arrow(3, 1, 5);
        x.good(4, true);
        c.due("difference, 01 before 10", x.difference(2, 3), 5);
        x.arrow(2, 1, 5);
        c.due("difference, 10 alone", x.difference(2, 3), 6);
        // The shorter 1 before the longer 00, though 00 has 0 first.
        x.arrow(2, 0, 4);
        x.good(3, true);
        c.due("difference, 1 before 00", x.difference(2, 3), 3);
    }

    private static void questionsChangeNothing() {
        LearnDesk x = finderOf101();
        x.ask(13);
        x.kinds();
        x.kind(13);
        x.first(3);
        x.next(2, 1);
        x.isGood(3);
        x.difference(1, 13);
        x.ask(0);
        x.kind(0);
        x.first(7);
        x.next(7, 0);
        x.isGood(7);
        x.difference(0, 0);
        staysFinderOf101("after questions", x);
    }

    private static void fullLifeOf512Calls() {
        LearnDesk x = new LearnDesk();
        for (int call = 0; call < 255; call++) {
            x.arrow(0, 1, call % 7);
            x.good(call % 7, call % 2 == 0);
        }
        // 510 calls: the arrow's last end was 254 % 7 = 2. State 0 was last set at call 252, to
        // good, and state 2 at call 254, to good: both words are good for ever.
        c.due("call 511: kinds", x.kinds(), 1);
        c.due("call 512: ask", x.ask(3), 1);
    }
}
