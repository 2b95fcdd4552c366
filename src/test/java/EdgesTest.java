/**
 * Each sentence of the document that names a boundary case has a test of its own here, named by its
 * promise (or its section) and its words. Answers are worked out by hand. No object is called more
 * than 512 times, save where that very edge is tested.
 */
public final class EdgesTest {
    private static final int MIN = Integer.MIN_VALUE;
    private static final int MAX = Integer.MAX_VALUE;

    // Beside the nearest ones: numbers that a doubling, a mask or a narrower type would turn into a
    // right one.
    private static final int[] STATES_TOO_SMALL = {-1, -2, -6, -7, -8, -14, -256, -(1 << 30), MIN + 3, MIN + 1, MIN};
    private static final int[] STATES_TOO_LARGE = {7, 8, 13, 14, 15, 128, 256, 259, 65536, 65539, 1 << 30, MAX - 1, MAX};
    private static final int[] WORDS_TOO_SMALL = {0, -1, -2, -3, -4094, -4095, -4096, -65535, MIN + 5, MIN + 1, MIN};
    private static final int[] WORDS_TOO_LARGE = {4096, 4097, 4101, 8191, 65535, 65537, 1 << 30, (1 << 30) + 5, MAX - 1, MAX};
    private static final int[] KINDS_TOO_SMALL = {-1, -2, -7, -256, MIN + 1, MIN};
    private static final int[] KINDS_TOO_LARGE = {7, 8, 14, 256, 65536, 1 << 30, MAX - 1, MAX};

    private static final int[] EVEN_LETTERS = {0, 2, 4, 256, 65536, MAX - 1, -2, -4, MIN};
    private static final int[] ODD_LETTERS = {1, 3, 5, 257, 65537, MAX, -1, -3, MIN + 1};

    private static final int[] WHEEL_FIRSTS = {1, 2, 3, 4, 5, 8, 9};
    private static final int[] WHEEL_NEXT_0 = {1, 3, 4, 5, 6, 2, 0};
    private static final int[] WHEEL_NEXT_1 = {2, 4, 1, 6, 3, 0, 5};
    private static final int WHEEL_GOOD_KIND = 5;

    private static final Checks c = new Checks();

    public static void main(String[] args) {
        whatItIs();
        terms();
        changes();
        questions();
        c.end("EdgesTest");
    }

    private static void whatItIs() {
        c.part("What it is: used for at most 512 calls: the 512th is answered as promised", EdgesTest::call512);
        c.part("What it is: used for at most 512 calls: refused calls and questions wear nothing out", EdgesTest::call512AfterRefusals);
        c.part("What it is: later calls are free in their answers (but end: LANGUAGE.md 7)", EdgesTest::laterCallsEnd);
    }

    private static void terms() {
        c.part("Terms: states 0 to 6: the lowest and the highest are states", EdgesTest::statesLowestAndHighest);
        c.part("Terms: at the start both letters lead from every state back to it", EdgesTest::startLoops);
        c.part("Terms: at the start no state is good", EdgesTest::startNoneGood);
        c.part("Terms: good: the empty word ends in state 0", EdgesTest::emptyWordEndsInState0);
        c.part("Terms: alike: the empty word too is put behind both", EdgesTest::alikeByEmptyWord);
        c.part("Terms: alike: whatever word is put behind, past 11 letters too", EdgesTest::alikePastElevenLetters);
        c.part("Terms: there are at most 7 kinds: with 7 all is full", EdgesTest::sevenKinds);
        c.part("Terms: the first word is the shortest, with 0 where they first differ", EdgesTest::firstOfSeveral);
        c.part("Terms: kinds are numbered by first words, shorter first, then 0 first", EdgesTest::numbering);
        c.part("Terms: kind 0 is that of the empty word", EdgesTest::kindZero);
        c.part("Terms: 1 is the empty word, 2 is 0, 3 is 1, 4 is 00, 5 is 01", EdgesTest::smallestWords);
        c.part("Terms: numbers from 1 to 4095 are words of up to 11 letters", EdgesTest::leastAndGreatestWord);
        c.part("Terms: other numbers are refused, too small", () -> wordsRefused(WORDS_TOO_SMALL));
        c.part("Terms: other numbers are refused, too large", () -> wordsRefused(WORDS_TOO_LARGE));
    }

    private static void changes() {
        c.part("Promise 1: a new object is as said above", EdgesTest::newObject);
        c.part("Promise 2: arrow takes the letter & 1", EdgesTest::arrowLetter);
        c.part("Promise 2: arrow holds from now on, over an earlier one", EdgesTest::arrowFromNowOn);
        c.part("Promise 2: arrow answers 0, back to the same state and where nothing is new too", EdgesTest::arrowAnswersZero);
        c.part("Promise 2: arrow is -1 and changes nothing, from too small", () -> arrowRefusesFrom(STATES_TOO_SMALL));
        c.part("Promise 2: arrow is -1 and changes nothing, from too large", () -> arrowRefusesFrom(STATES_TOO_LARGE));
        c.part("Promise 2: arrow is -1 and changes nothing, to too small", () -> arrowRefusesTo(STATES_TOO_SMALL));
        c.part("Promise 2: arrow is -1 and changes nothing, to too large", () -> arrowRefusesTo(STATES_TOO_LARGE));
        c.part("Promise 2: arrow is -1 and changes nothing, from and to wrong", EdgesTest::arrowRefusesBoth);
        c.part("Promise 3: good makes a state good or not, also one that is so", EdgesTest::goodOrNot);
        c.part("Promise 3: good is -1 and changes nothing, state too small", () -> goodRefuses(STATES_TOO_SMALL));
        c.part("Promise 3: good is -1 and changes nothing, state too large", () -> goodRefuses(STATES_TOO_LARGE));
    }

    private static void questions() {
        c.part("Promise 4: ask is -1 for a number that is no word", EdgesTest::askRefuses);
        c.part("Promise 5: kinds is 1 at least: none good, all good", EdgesTest::kindsLeast);
        c.part("Promise 5: kinds is 7 at most, and goes up and down by each step", EdgesTest::kindsUpAndDown);
        c.part("Promise 6: kind is -1 for a number that is no word", EdgesTest::kindRefuses);
        c.part("Promise 7: first has at most 6 letters, and can have 6", EdgesTest::firstOfSixLetters);
        c.part("Promise 7: first is -1 if there is none, below 0", () -> noSuchKind(KINDS_TOO_SMALL, LearnDesk::first));
        c.part("Promise 7: first is -1 if there is none, from 7 on", () -> noSuchKind(KINDS_TOO_LARGE, LearnDesk::first));
        c.part("Promise 7: first is -1 if there is none, from kinds() on", () -> noKindFromCountOn(LearnDesk::first));
        c.part("Promise 8: next takes the letter & 1", EdgesTest::nextLetter);
        c.part("Promise 8: next goes on behind a first word of 6 letters", EdgesTest::nextOfSixLetters);
        c.part("Promise 8: next is -1 if there is no such kind, below 0", () -> noSuchKind(KINDS_TOO_SMALL, EdgesTest::bothNext));
        c.part("Promise 8: next is -1 if there is no such kind, from 7 on", () -> noSuchKind(KINDS_TOO_LARGE, EdgesTest::bothNext));
        c.part("Promise 8: next is -1 if there is no such kind, from kinds() on", () -> noKindFromCountOn(EdgesTest::bothNext));
        c.part("Promise 8: next is -1 if there is no such kind, whatever the letter", EdgesTest::nextRefusesAnyLetter);
        c.part("Promise 9: isGood is -1 if there is no such kind, below 0", () -> noSuchKind(KINDS_TOO_SMALL, LearnDesk::isGood));
        c.part("Promise 9: isGood is -1 if there is no such kind, from 7 on", () -> noSuchKind(KINDS_TOO_LARGE, LearnDesk::isGood));
        c.part("Promise 9: isGood is -1 if there is no such kind, from kinds() on", () -> noKindFromCountOn(LearnDesk::isGood));
        c.part("Promise 10: difference is the shortest word, which can be the empty one", EdgesTest::differenceEmptyWord);
        c.part("Promise 10: difference is of several the one with 0 where they first differ", EdgesTest::differenceOfSeveral);
        c.part("Promise 10: difference is 0 if there is none", EdgesTest::differenceNone);
        c.part("Promise 10: difference is -1 if the first is refused", EdgesTest::differenceRefusesFirst);
        c.part("Promise 10: difference is -1 if the second is refused", EdgesTest::differenceRefusesSecond);
        c.part("Promise 10: difference is -1, not 0, if both are refused, also the same", EdgesTest::differenceRefusesBoth);
        c.part("Promise 10: difference has at most 6 letters, and finds the longest there is", EdgesTest::differenceLongest);
    }

    /**
     * Seven states in a ring: 1 goes one state on, 0 goes two on, state 6 is good. All states are
     * reached, no two are alike and no arrow is a loop, so that a change of any arrow or state shows.
     * The first words, empty, 0, 1, 00, 01, 000 and 001, end in the states 0, 2, 1, 4, 3, 6 and 5.
     */
    private static LearnDesk wheel() {
        LearnDesk x = new LearnDesk();
        for (int s = 0; s < 7; s++) {
            x.arrow(s, 0, (s + 2) % 7);
            x.arrow(s, 1, (s + 1) % 7);
        }
        x.good(6, true);
        return x;
    }

    private static int wheelState(int word) {
        String letters = Integer.toBinaryString(word).substring(1);
        int state = 0;
        for (char letter : letters.toCharArray()) {
            state += letter == '0' ? 2 : 1;
        }
        return state % 7;
    }

    private static void staysWheel(String what, LearnDesk x) {
        c.due(what + ": kinds", x.kinds(), 7);
        for (int kind = 0; kind < 7; kind++) {
            c.due(what + ": first " + kind, x.first(kind), WHEEL_FIRSTS[kind]);
            c.due(what + ": next " + kind + " 0", x.next(kind, 0), WHEEL_NEXT_0[kind]);
            c.due(what + ": next " + kind + " 1", x.next(kind, 1), WHEEL_NEXT_1[kind]);
            c.due(what + ": isGood " + kind, x.isGood(kind), kind == WHEEL_GOOD_KIND ? 1 : 0);
        }
        for (int word = 1; word < 16; word++) {
            c.due(what + ": ask " + word, x.ask(word), wheelState(word) == 6 ? 1 : 0);
        }
    }

    /** 'letter' goes one state on, up to state 6, which is good and left by nothing. */
    private static LearnDesk chain(int letter) {
        LearnDesk x = new LearnDesk();
        for (int s = 0; s < 6; s++) {
            x.arrow(s, letter, s + 1);
        }
        x.good(6, true);
        return x;
    }

    // ---- What it is ----

    /** 511 calls, among them changes of every state; the wheel is made by the last fifteen. */
    private static LearnDesk wheelAfter511Calls() {
        LearnDesk x = new LearnDesk();
        for (int call = 0; call < 496; call++) {
            if (call % 3 == 0) {
                x.arrow(call % 7, call / 3, call % 5);
            } else {
                x.good(call % 7, call < 480 && call % 2 == 0);
            }
        }
        for (int s = 0; s < 7; s++) {
            x.arrow(s, 0, (s + 2) % 7);
            x.arrow(s, 1, (s + 1) % 7);
        }
        x.good(6, true);
        return x;
    }

    private static void call512() {
        c.due("call 512: arrow", wheelAfter511Calls().arrow(0, 0, 0), 0);
        c.due("call 512: arrow refused", wheelAfter511Calls().arrow(7, 0, 0), -1);
        c.due("call 512: good", wheelAfter511Calls().good(0, true), 0);
        c.due("call 512: good refused", wheelAfter511Calls().good(-1, true), -1);
        c.due("call 512: ask", wheelAfter511Calls().ask(8), 1);
        c.due("call 512: ask refused", wheelAfter511Calls().ask(0), -1);
        c.due("call 512: kinds", wheelAfter511Calls().kinds(), 7);
        c.due("call 512: kind", wheelAfter511Calls().kind(9), 6);
        c.due("call 512: first", wheelAfter511Calls().first(6), 9);
        c.due("call 512: next", wheelAfter511Calls().next(6, 0), 0);
        c.due("call 512: isGood", wheelAfter511Calls().isGood(5), 1);
        c.due("call 512: difference", wheelAfter511Calls().difference(8, 9), 1);
    }

    private static void call512AfterRefusals() {
        LearnDesk x = wheel();
        for (int call = 15; call < 468; call++) {
            switch (call % 9) {
                case 0: x.arrow(7, 0, 0); break;
                case 1: x.good(7, true); break;
                case 2: x.ask(0); break;
                case 3: x.kinds(); break;
                case 4: x.kind(4096); break;
                case 5: x.first(7); break;
                case 6: x.next(-1, 1); break;
                case 7: x.isGood(7); break;
                default: x.difference(1, 0); break;
            }
        }
        staysWheel("calls 469 to 512", x);
    }

    private static void laterCallsEnd() {
        LearnDesk x = wheel();
        for (int call = 15; call < 2000; call++) {
            x.arrow(call % 9 - 1, call, call % 8);
            x.good(call % 9 - 1, call % 2 == 0);
            x.ask(call * 3 - 50);
            x.kinds();
            x.kind(call * 3 - 50);
            x.first(call % 9 - 1);
            x.next(call % 9 - 1, call);
            x.isGood(call % 9 - 1);
            x.difference(call * 3 - 50, call);
        }
        c.holds("every later call came to an end", true);
    }

    // ---- Terms ----

    private static void statesLowestAndHighest() {
        LearnDesk x = new LearnDesk();
        c.due("arrow from 0 to 6", x.arrow(0, 0, 6), 0);
        c.due("arrow from 6 to 0", x.arrow(6, 0, 0), 0);
        c.due("good 6", x.good(6, true), 0);
        c.due("0 ends in state 6", x.ask(2), 1);
        c.due("00 ends in state 0", x.ask(4), 0);
        c.due("good 0", x.good(0, true), 0);
        c.due("not good 6", x.good(6, false), 0);
        c.due("0 ends in state 6, not good now", x.ask(2), 0);
        c.due("00 ends in state 0, good now", x.ask(4), 1);
    }

    private static void startLoops() {
        for (int s = 0; s < 7; s++) {
            for (int letter = 0; letter < 2; letter++) {
                // The word 1 ends in s; only s is good; the letter, ten times more, stays there.
                LearnDesk x = new LearnDesk();
                x.arrow(0, 1, s);
                x.good(s, true);
                int word = 3;
                for (int times = 0; times <= 10; times++) {
                    c.due("state " + s + ", letter " + letter + ": word " + word, x.ask(word), 1);
                    word = 2 * word + letter;
                }
            }
        }
    }

    private static void startNoneGood() {
        for (int s = 0; s < 7; s++) {
            LearnDesk x = new LearnDesk();
            x.arrow(0, 1, s);
            c.due("state " + s + " at the start: ask 1", x.ask(3), 0);
            c.due("state " + s + " at the start: kinds", x.kinds(), 1);
            c.due("state " + s + " at the start: isGood 0", x.isGood(0), 0);
        }
    }

    private static void emptyWordEndsInState0() {
        LearnDesk x = wheel();
        c.due("state 0 is not good: ask 1", x.ask(1), 0);
        for (int s = 1; s < 7; s++) {
            x.good(s, true);
        }
        c.due("all but state 0 are good: ask 1", x.ask(1), 0);
        x.good(0, true);
        for (int s = 1; s < 7; s++) {
            x.good(s, false);
        }
        c.due("state 0 alone is good: ask 1", x.ask(1), 1);
        c.due("state 0 alone is good: ask 2", x.ask(2), 0);
    }

    private static void alikeByEmptyWord() {
        // Whatever is put behind 0 and behind the empty word, save the empty word, is good for both.
        LearnDesk x = new LearnDesk();
        x.arrow(0, 0, 1);
        x.arrow(0, 1, 1);
        x.good(1, true);
        c.due("kinds", x.kinds(), 2);
        c.due("kind of the empty word", x.kind(1), 0);
        c.due("kind of 0", x.kind(2), 1);
    }

    private static void alikePastElevenLetters() {
        // Ten 0s and one letter: only with five 1s more, 16 letters in all, is 00000000001 good alone.
        LearnDesk x = chain(1);
        c.due("neither is good: ask 2048", x.ask(2048), 0);
        c.due("neither is good: ask 2049", x.ask(2049), 0);
        c.due("kind 2048", x.kind(2048), 0);
        c.due("kind 2049", x.kind(2049), 1);
        c.due("difference", x.difference(2048, 2049), 63);
    }

    private static void sevenKinds() {
        LearnDesk x = wheel();
        staysWheel("full", x);
        int[] kindOfState = {0, 2, 1, 4, 3, 6, 5};
        for (int word = 1; word <= 255; word++) {
            c.due("full: kind " + word, x.kind(word), kindOfState[wheelState(word)]);
        }
        x = wheel();
        for (int word = 4095; word > 3800; word--) {
            c.due("full: kind " + word, x.kind(word), kindOfState[wheelState(word)]);
        }
    }

    private static void firstOfSeveral() {
        // 01 and 10 both end in state 3, which no shorter word does.
        LearnDesk x = new LearnDesk();
        x.arrow(0, 0, 1);
        x.arrow(0, 1, 2);
        x.arrow(1, 1, 3);
        x.arrow(2, 0, 3);
        x.arrow(2, 1, 0);
        x.good(3, true);
        c.due("01 and 10 are alike", x.kind(5), x.kind(6));
        c.due("of 01 and 10", x.first(x.kind(6)), 5);
        // 1 and 00 both end in state 3: the shorter one, though 00 has 0 first.
        LearnDesk y = new LearnDesk();
        y.arrow(0, 1, 3);
        y.arrow(0, 0, 1);
        y.arrow(1, 0, 3);
        y.good(3, true);
        c.due("1 and 00 are alike", y.kind(3), y.kind(4));
        c.due("of 1 and 00 the shorter", y.first(y.kind(4)), 3);
    }

    private static void numbering() {
        // First words: empty, 0, 1, 00, 01, 10, 11, which end in the states 0, 6, 5, 4, 3, 2, 1.
        LearnDesk x = new LearnDesk();
        x.arrow(0, 0, 6);
        x.arrow(0, 1, 5);
        x.arrow(6, 0, 4);
        x.arrow(6, 1, 3);
        x.arrow(5, 0, 2);
        x.arrow(5, 1, 1);
        x.arrow(4, 0, 1);
        x.arrow(4, 1, 1);
        x.arrow(3, 0, 1);
        x.arrow(2, 1, 1);
        x.good(1, true);
        x.arrow(3, 1, 0);
        x.arrow(2, 0, 0);
        c.due("kinds", x.kinds(), 7);
        for (int word = 1; word < 8; word++) {
            c.due("kind of " + word, x.kind(word), word - 1);
            c.due("first of " + (word - 1), x.first(word - 1), word);
        }
        // 1 is a first word and 00 is one: the shorter has the smaller number.
        LearnDesk y = new LearnDesk();
        y.arrow(0, 0, 1);
        y.arrow(1, 0, 2);
        y.arrow(0, 1, 3);
        y.good(2, true);
        c.due("kind of 1", y.kind(3), 2);
        c.due("kind of 00", y.kind(4), 3);
    }

    private static void kindZero() {
        c.due("new: kind 1", new LearnDesk().kind(1), 0);
        c.due("wheel: kind 1", wheel().kind(1), 0);
        c.due("wheel: first 0", wheel().first(0), 1);
        // The empty word is not gone back to, and only it is good.
        LearnDesk x = new LearnDesk();
        x.arrow(0, 0, 6);
        x.arrow(0, 1, 6);
        x.good(0, true);
        c.due("left for ever: kind 1", x.kind(1), 0);
        c.due("left for ever: first 0", x.first(0), 1);
        c.due("left for ever: kind 2", x.kind(2), 1);
    }

    private static void smallestWords() {
        // 0 ends in 1, 1 in 2, 00 in 3, 01 in 4; each is good by itself in turn.
        for (int word = 1; word <= 5; word++) {
            LearnDesk x = new LearnDesk();
            x.arrow(0, 0, 1);
            x.arrow(0, 1, 2);
            x.arrow(1, 0, 3);
            x.arrow(1, 1, 4);
            x.arrow(2, 0, 5);
            x.arrow(2, 1, 5);
            x.good(word - 1, true);
            for (int asked = 1; asked <= 7; asked++) {
                c.due("state " + (word - 1) + " good: ask " + asked, x.ask(asked), asked == word ? 1 : 0);
            }
        }
    }

    private static void leastAndGreatestWord() {
        LearnDesk x = wheel();
        // 1: no letter, state 0. 4095: eleven 1s, state 4. 2048: eleven 0s, 22 steps, state 1.
        // 2047: ten 1s, state 3. 4094: ten 1s and a 0, 12 steps, state 5.
        int[] words = {1, 4095, 2048, 2047, 4094};
        int[] states = {0, 4, 1, 3, 5};
        int[] kinds = {0, 3, 2, 4, 6};
        for (int i = 0; i < words.length; i++) {
            c.due("ask " + words[i], x.ask(words[i]), 0);
            c.due("kind " + words[i], x.kind(words[i]), kinds[i]);
            x.good(6, false);
            x.good(states[i], true);
            c.due("ask " + words[i] + ", its state good", x.ask(words[i]), 1);
            x.good(states[i], false);
            x.good(6, true);
        }
        // State 4 is good after two 1s or one 0; state 0 after three 0s at the soonest.
        c.due("difference 1 4095", x.difference(1, 4095), 2);
        c.due("difference 4095 1", x.difference(4095, 1), 2);
        c.due("difference 4095 4095", x.difference(4095, 4095), 0);
        c.due("difference 1 1", x.difference(1, 1), 0);
    }

    private static void wordsRefused(int[] numbers) {
        LearnDesk x = wheel();
        for (int number : numbers) {
            c.due("ask " + number, x.ask(number), -1);
            c.due("kind " + number, x.kind(number), -1);
            c.due("difference " + number + " 1", x.difference(number, 1), -1);
            c.due("difference 1 " + number, x.difference(1, number), -1);
        }
        staysWheel("after refused words", x);
    }

    // ---- Promises 1 to 3 ----

    private static void newObject() {
        LearnDesk x = new LearnDesk();
        c.due("kinds", x.kinds(), 1);
        c.due("first 0", x.first(0), 1);
        c.due("first 1", x.first(1), -1);
        c.due("next 0 0", x.next(0, 0), 0);
        c.due("next 0 1", x.next(0, 1), 0);
        c.due("next 1 0", x.next(1, 0), -1);
        c.due("isGood 0", x.isGood(0), 0);
        c.due("isGood 1", x.isGood(1), -1);
        for (int word : new int[] {1, 2, 3, 2047, 2048, 4095}) {
            c.due("ask " + word, x.ask(word), 0);
            c.due("kind " + word, x.kind(word), 0);
            c.due("difference 1 " + word, x.difference(1, word), 0);
        }
        c.due("ask 0", x.ask(0), -1);
        c.due("ask 4096", x.ask(4096), -1);
    }

    private static void arrowLetter() {
        for (int letter : EVEN_LETTERS) {
            LearnDesk x = new LearnDesk();
            x.good(1, true);
            c.due("arrow, letter " + letter, x.arrow(0, letter, 1), 0);
            c.due("letter " + letter + ": the word 0", x.ask(2), 1);
            c.due("letter " + letter + ": the word 1", x.ask(3), 0);
        }
        for (int letter : ODD_LETTERS) {
            LearnDesk x = new LearnDesk();
            x.good(1, true);
            c.due("arrow, letter " + letter, x.arrow(0, letter, 1), 0);
            c.due("letter " + letter + ": the word 0", x.ask(2), 0);
            c.due("letter " + letter + ": the word 1", x.ask(3), 1);
        }
        // A letter taken whole would reach past the state's two arrows.
        LearnDesk y = wheel();
        c.due("arrow 6 MAX", y.arrow(6, MAX, 0), 0);
        c.due("arrow 6 MIN", y.arrow(6, MIN, 1), 0);
        c.due("arrow 0 -1", y.arrow(0, -1, 1), 0);
        c.due("arrow 0 -2", y.arrow(0, -2, 2), 0);
        staysWheel("the same arrows again", y);
    }

    private static void arrowFromNowOn() {
        LearnDesk x = new LearnDesk();
        x.good(1, true);
        x.arrow(0, 0, 1);
        c.due("to 1: ask 0", x.ask(2), 1);
        c.due("to 1: kinds", x.kinds(), 2);
        x.arrow(0, 0, 2);
        c.due("then to 2: ask 0", x.ask(2), 0);
        c.due("then to 2: kinds", x.kinds(), 1);
        x.arrow(0, 0, 1);
        c.due("then to 1 again: ask 0", x.ask(2), 1);
        c.due("the other letter still leads back: ask 1", x.ask(3), 0);
        x.arrow(0, 1, 1);
        c.due("the other letter too: ask 1", x.ask(3), 1);
        c.due("and this one as before: ask 0", x.ask(2), 1);
    }

    private static void arrowAnswersZero() {
        LearnDesk x = new LearnDesk();
        for (int from = 0; from < 7; from++) {
            for (int to = 0; to < 7; to++) {
                c.due("arrow " + from + " 0 " + to, x.arrow(from, 0, to), 0);
                c.due("arrow " + from + " 1 " + to, x.arrow(from, 1, to), 0);
                c.due("arrow " + from + " 1 " + to + " again", x.arrow(from, 1, to), 0);
            }
            c.due("arrow back, 0", x.arrow(from, 0, from), 0);
            c.due("arrow back, 1", x.arrow(from, 1, from), 0);
        }
        x.good(0, true);
        c.due("all lead back again: kinds", x.kinds(), 1);
    }

    private static void arrowRefusesFrom(int[] wrong) {
        for (int from : wrong) {
            LearnDesk x = wheel();
            for (int to = 0; to < 7; to++) {
                c.due("arrow " + from + " 0 " + to, x.arrow(from, 0, to), -1);
                c.due("arrow " + from + " 1 " + to, x.arrow(from, 1, to), -1);
                c.due("arrow " + from + " -1 " + to, x.arrow(from, -1, to), -1);
                c.due("arrow " + from + " 2 " + to, x.arrow(from, 2, to), -1);
            }
            staysWheel("after arrow from " + from, x);
        }
    }

    private static void arrowRefusesTo(int[] wrong) {
        for (int to : wrong) {
            LearnDesk x = wheel();
            for (int from = 0; from < 7; from++) {
                c.due("arrow " + from + " 0 " + to, x.arrow(from, 0, to), -1);
                c.due("arrow " + from + " 1 " + to, x.arrow(from, 1, to), -1);
            }
            staysWheel("after arrow to " + to, x);
        }
    }

    private static void arrowRefusesBoth() {
        int[] wrong = {-1, 7, MIN, MAX};
        for (int from : wrong) {
            for (int to : wrong) {
                LearnDesk x = wheel();
                c.due("arrow " + from + " 0 " + to, x.arrow(from, 0, to), -1);
                c.due("arrow " + from + " 1 " + to, x.arrow(from, 1, to), -1);
                staysWheel("after arrow " + from + " to " + to, x);
            }
        }
    }

    private static void goodOrNot() {
        for (int s = 0; s < 7; s++) {
            LearnDesk x = new LearnDesk();
            x.arrow(0, 1, s);
            c.due("state " + s + ", not good already", x.good(s, false), 0);
            c.due("state " + s + ", not good: ask", x.ask(3), 0);
            c.due("state " + s + ", good", x.good(s, true), 0);
            c.due("state " + s + ", good: ask", x.ask(3), 1);
            c.due("state " + s + ", good already", x.good(s, true), 0);
            c.due("state " + s + ", good already: ask", x.ask(3), 1);
            c.due("state " + s + ", the others stay: ask 1", x.ask(1), s == 0 ? 1 : 0);
            c.due("state " + s + ", not good again", x.good(s, false), 0);
            c.due("state " + s + ", not good again: ask", x.ask(3), 0);
            c.due("state " + s + ", not good again: kinds", x.kinds(), 1);
        }
    }

    private static void goodRefuses(int[] wrong) {
        for (int state : wrong) {
            LearnDesk x = wheel();
            c.due("good " + state + " true", x.good(state, true), -1);
            staysWheel("after good " + state + " true", x);
            c.due("good " + state + " false", x.good(state, false), -1);
            staysWheel("after good " + state + " false", x);
        }
    }

    // ---- Promises 4 to 10 ----

    private static void askRefuses() {
        LearnDesk x = new LearnDesk();
        for (int s = 0; s < 7; s++) {
            x.good(s, true);
        }
        c.due("all good: ask 0", x.ask(0), -1);
        c.due("all good: ask 1", x.ask(1), 1);
        c.due("all good: ask 4095", x.ask(4095), 1);
        c.due("all good: ask 4096", x.ask(4096), -1);
        c.due("all good: ask -1", x.ask(-1), -1);
        c.due("all good: ask MIN", x.ask(MIN), -1);
        c.due("all good: ask MAX", x.ask(MAX), -1);
    }

    private static void kindsLeast() {
        LearnDesk x = wheel();
        x.good(6, false);
        c.due("none good: kinds", x.kinds(), 1);
        c.due("none good: isGood 0", x.isGood(0), 0);
        c.due("none good: kind 4095", x.kind(4095), 0);
        for (int s = 0; s < 7; s++) {
            x.good(s, true);
        }
        c.due("all good: kinds", x.kinds(), 1);
        c.due("all good: isGood 0", x.isGood(0), 1);
        c.due("all good: kind 4095", x.kind(4095), 0);
    }

    private static void kindsUpAndDown() {
        LearnDesk x = chain(1);
        c.due("chain of 7: kinds", x.kinds(), 7);
        // Good from state s on: each step takes off one kind, and gives it back.
        for (int s = 5; s >= 0; s--) {
            x.good(s, true);
            c.due("good from " + s + " on: kinds", x.kinds(), s + 1);
        }
        for (int s = 0; s <= 5; s++) {
            x.good(s, false);
            c.due("good from " + (s + 1) + " on: kinds", x.kinds(), s + 2);
        }
    }

    private static void kindRefuses() {
        LearnDesk x = wheel();
        c.due("kind 0", x.kind(0), -1);
        c.due("kind 1", x.kind(1), 0);
        c.due("kind 4095", x.kind(4095), 3);
        c.due("kind 4096", x.kind(4096), -1);
        c.due("kind -1", x.kind(-1), -1);
        c.due("kind MIN", x.kind(MIN), -1);
        c.due("kind MAX", x.kind(MAX), -1);
    }

    private static void firstOfSixLetters() {
        LearnDesk zeros = chain(0);
        LearnDesk ones = chain(1);
        int word = 1;
        for (int kind = 0; kind < 7; kind++) {
            c.due("zeros: first " + kind, zeros.first(kind), 1 << kind);
            c.due("ones: first " + kind, ones.first(kind), word);
            word = 2 * word + 1;
        }
        // 101010 and nothing shorter ends in state 6.
        LearnDesk mixed = new LearnDesk();
        for (int s = 0; s < 6; s++) {
            mixed.arrow(s, s + 1, s + 1);
        }
        mixed.good(6, true);
        c.due("mixed: first 6", mixed.first(6), 0b1101010);
    }

    /** A question about a kind that is -1 where there is no such kind. */
    private interface OfKind {
        int answer(LearnDesk x, int kind);
    }

    private static int bothNext(LearnDesk x, int kind) {
        int zero = x.next(kind, 0);
        int one = x.next(kind, 1);
        return zero == -1 && one == -1 ? -1 : zero == -1 || one == -1 ? -2 : 0;
    }

    private static void noSuchKind(int[] numbers, OfKind question) {
        LearnDesk full = wheel();
        LearnDesk least = new LearnDesk();
        for (int number : numbers) {
            c.due("of 7 kinds, " + number, question.answer(full, number), -1);
            c.due("of 1 kind, " + number, question.answer(least, number), -1);
        }
        c.holds("of 7 kinds, 0 is one", question.answer(full, 0) >= 0);
        c.holds("of 7 kinds, 6 is one", question.answer(full, 6) >= 0);
        c.holds("of 1 kind, 0 is one", question.answer(least, 0) >= 0);
    }

    /** The numbers that were kinds before, and are none now, are none. */
    private static void noKindFromCountOn(OfKind question) {
        LearnDesk x = chain(1);
        for (int count = 6; count >= 1; count--) {
            x.good(count - 1, true);
            for (int kind = 0; kind < count; kind++) {
                c.holds(count + " kinds: " + kind + " is one", question.answer(x, kind) >= 0);
            }
            for (int kind = count; kind <= 8; kind++) {
                c.due(count + " kinds: " + kind, question.answer(x, kind), -1);
            }
        }
        x.good(0, false);
        c.holds("2 kinds again: 1 is one", question.answer(x, 1) >= 0);
        c.due("2 kinds again: 2", question.answer(x, 2), -1);
    }

    private static void nextLetter() {
        LearnDesk x = wheel();
        for (int kind = 0; kind < 7; kind++) {
            for (int letter : EVEN_LETTERS) {
                c.due("next " + kind + " " + letter, x.next(kind, letter), WHEEL_NEXT_0[kind]);
            }
            for (int letter : ODD_LETTERS) {
                c.due("next " + kind + " " + letter, x.next(kind, letter), WHEEL_NEXT_1[kind]);
            }
        }
    }

    private static void nextOfSixLetters() {
        LearnDesk x = chain(1);
        c.due("next 6 1 stays", x.next(6, 1), 6);
        c.due("next 6 0 stays", x.next(6, 0), 6);
        x.arrow(6, 1, 0);
        c.due("next 6 1, back to the empty word", x.next(6, 1), 0);
        x.arrow(6, 0, 5);
        c.due("next 6 0, back to 11111", x.next(6, 0), 5);
    }

    private static void nextRefusesAnyLetter() {
        LearnDesk x = wheel();
        for (int kind : new int[] {-1, 7, MIN, MAX}) {
            for (int letter : EVEN_LETTERS) {
                c.due("next " + kind + " " + letter, x.next(kind, letter), -1);
            }
            for (int letter : ODD_LETTERS) {
                c.due("next " + kind + " " + letter, x.next(kind, letter), -1);
            }
        }
    }

    private static void differenceEmptyWord() {
        LearnDesk x = wheel();
        // 000 is good; the empty word, which is not, is then told apart with nothing put behind.
        c.due("difference 8 1", x.difference(8, 1), 1);
        c.due("difference 1 8", x.difference(1, 8), 1);
        // 001 is one step, the letter 1, before good; 00 is one 0 before it: of 0 and 1 it is 0.
        c.due("difference 9 4", x.difference(9, 4), 2);
        // 01, in state 3, needs 01, 10 or 111; the empty word needs 000 at the soonest.
        c.due("difference 5 1", x.difference(5, 1), 5);
    }

    private static void differenceOfSeveral() {
        // From 1 on both 01 and 10 are good, from 0 on nothing is.
        LearnDesk x = new LearnDesk();
        x.arrow(0, 0, 5);
        x.arrow(0, 1, 1);
        x.arrow(1, 0, 2);
        x.arrow(1, 1, 3);
        x.arrow(2, 0, 5);
        x.arrow(2, 1, 4);
        x.arrow(3, 0, 4);
        x.arrow(3, 1, 5);
        x.good(4, true);
        c.due("01 and 10: difference 2 3", x.difference(2, 3), 5);
        c.due("01 and 10: difference 3 2", x.difference(3, 2), 5);
        // 0 and 1 both tell apart.
        x.good(2, true);
        x.good(3, true);
        c.due("0 and 1: difference 2 3", x.difference(2, 3), 2);
        // 1 tells apart and 00 does: the shorter one.
        x.good(2, false);
        x.arrow(2, 0, 4);
        c.due("1 and 00: difference 2 3", x.difference(2, 3), 3);
    }

    private static void differenceNone() {
        LearnDesk x = wheel();
        for (int word : new int[] {1, 2, 63, 64, 2047, 2048, 4095}) {
            c.due("a word and itself, " + word, x.difference(word, word), 0);
        }
        // Seven 1s go once around: alike to the empty word. 11 and 0 end in state 2.
        c.due("difference 255 1", x.difference(255, 1), 0);
        c.due("difference 7 2", x.difference(7, 2), 0);
        // Other states, yet alike: 0 and 1 end in 1 and 2, both good for ever.
        LearnDesk y = new LearnDesk();
        y.arrow(0, 0, 1);
        y.arrow(0, 1, 2);
        y.good(1, true);
        y.good(2, true);
        c.due("two states alike: difference 2 3", y.difference(2, 3), 0);
        c.due("new: difference 1 4095", new LearnDesk().difference(1, 4095), 0);
    }

    private static void differenceRefusesFirst() {
        LearnDesk x = wheel();
        for (int other : new int[] {1, 8, 4095}) {
            for (int number : WORDS_TOO_SMALL) {
                c.due("difference " + number + " " + other, x.difference(number, other), -1);
            }
            for (int number : WORDS_TOO_LARGE) {
                c.due("difference " + number + " " + other, x.difference(number, other), -1);
            }
        }
    }

    private static void differenceRefusesSecond() {
        LearnDesk x = wheel();
        for (int word : new int[] {1, 8, 4095}) {
            for (int number : WORDS_TOO_SMALL) {
                c.due("difference " + word + " " + number, x.difference(word, number), -1);
            }
            for (int number : WORDS_TOO_LARGE) {
                c.due("difference " + word + " " + number, x.difference(word, number), -1);
            }
        }
    }

    private static void differenceRefusesBoth() {
        LearnDesk x = wheel();
        int[] wrong = {0, -1, 4096, MIN, MAX};
        for (int word : wrong) {
            for (int other : wrong) {
                c.due("difference " + word + " " + other, x.difference(word, other), -1);
            }
        }
    }

    private static void differenceLongest() {
        // After s letters of the chain 6 - s more are needed, so 5 tell the empty word and the
        // first letter apart; no seven states need more.
        LearnDesk zeros = chain(0);
        LearnDesk ones = chain(1);
        int[] onesWords = {1, 3, 7, 15, 31, 63, 127};
        for (int i = 0; i < 7; i++) {
            for (int j = 0; j < 7; j++) {
                int farther = i > j ? i : j;
                int letters = 6 - farther;
                c.due("zeros, " + i + " and " + j, zeros.difference(1 << i, 1 << j), i == j ? 0 : 1 << letters);
                c.due("ones, " + i + " and " + j, ones.difference(onesWords[i], onesWords[j]), i == j ? 0 : onesWords[letters]);
            }
        }
        // Behind words of 11 letters it is as long.
        c.due("zeros, 11 letters: difference 4095 4094", zeros.difference(4095, 4094), 32);
        c.due("ones, 11 letters: difference 2048 2049", ones.difference(2048, 2049), 63);
    }
}
