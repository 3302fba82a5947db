/** The boundary cases of head III and of the promises 1 to 48, a sentence at a time: refused calls, their order, what they leave, numbers far out. */
public final class CarriedLettersBoundsOfCalls extends Asking {
    private static final String TWO = "script letters 2;";
    private static final String PASS = TWO + "pass;";
    /** Two passes, three rules and one, one kind; a, b and c. */
    private static final String FIRST = "script letters 3;kind vow of ac;pass;rule ab to c;rule a before edge to b;"
            + "rule after vow c to none;pass again;rule bb to b";
    /** a and b are endless, c is too long, d stays: straight as well as turned. */
    private static final String FAILING = "script letters 4;pass again;rule a to b;rule b to a;rule c to cc;pass again;rule ee to e;rule f to g;rule g to f";

    /** No two words come out alike, none fails. */
    private static final String UNLIKE = PASS + "rule a to c";
    /** No row of pieces ends in a single a. */
    private static final String BOLD = PASS + "rule a to bb";

    /** No numbers of anything: some of them become small ones, if they are multiplied by 2, 4, 8, 10 or 20 and wrap around. */
    private static final int[] FAR = {-1, -2, -8, -20, Integer.MIN_VALUE, Integer.MIN_VALUE + 1, Integer.MAX_VALUE, Integer.MAX_VALUE - 1,
        1 << 16, 1 << 24, 1 << 27, 1 << 28, 1 << 29, 1 << 30, (1 << 29) + 1, (1 << 30) + 1, -(1 << 29), -(1 << 30), 64, 256, 900, 1000};

    private static final long A = word("a");

    private interface Call {
        long of(CarriedLetters x);
    }

    private interface Numbered {
        long of(CarriedLetters x, int number);
    }

    private interface Worded {
        long of(CarriedLetters x, long letters);
    }

    // ---- what a call asks for, each by its own names

    private static final String[] NAMES = {"about", "kind", "pass", "rule", "letter", "goes", "depth", "ends", "pieces", "piece", "clear",
        "unclear", "readings", "reading", "sure", "carry", "out", "behind", "outOf", "rounds", "served", "apart", "turned", "turnedOut",
        "words", "reversible", "failing", "doubled", "fails", "firstFail", "sources", "source", "longest", "longestOf", "idle", "comeBack",
        "lost", "worst", "aside"};

    private static final Call[] GOOD = {x -> x.about(0), x -> x.kind(0), x -> x.pass(0, 0), x -> x.rule(0, 0, 0), x -> x.letter(0, 0, 0, 0),
        x -> x.goes(0, 0, 0), x -> x.depth(0, 0), x -> x.ends(0, 0), x -> x.pieces(0), x -> x.piece(0, 0), x -> x.clear(0),
        x -> x.unclear(0), x -> x.readings(0, word("c")), x -> x.reading(0, word("c"), 0), x -> x.sure(), x -> x.carry(A), x -> x.out(0),
        x -> x.behind(0), x -> x.outOf(0, 0), x -> x.rounds(0), x -> x.served(0, 0), x -> x.apart(A, A), x -> x.turned(A),
        x -> x.turnedOut(A, 0), x -> x.words(1), x -> x.reversible(1), x -> x.failing(2, 0), x -> x.doubled(1), x -> x.fails(1, 0),
        x -> x.firstFail(1, 0), x -> x.sources(1, A), x -> x.source(2, word("b"), 0), x -> x.longest(1), x -> x.longestOf(1),
        x -> x.idle(0, 1), x -> x.comeBack(1), x -> x.lost(1), x -> x.worst(1), x -> x.aside(0, 0, 1)};

    private static void noScript() {
        about("1: No SCRIPT: each call that may be refused is so by 1");
        for (int k = 0; k < NAMES.length; k++) {
            CarriedLetters x = new CarriedLetters();
            due("trouble of a new object", x.trouble(), 0);
            refused(x, NAMES[k], GOOD[k].of(x), 1);
            CarriedLetters faulty = new CarriedLetters();
            tell(faulty, "script letters 2;pass;rule a");
            refused(faulty, NAMES[k] + " behind a text with a fault", GOOD[k].of(faulty), 1);
            due("the fault is told yet", faulty.fault(), 1);
            due("but not its place", faulty.where(), -1);
        }
        CarriedLetters x = new CarriedLetters();
        due("undo", x.undo() ? 1 : 0, 0);
        due("trouble", x.trouble(), 1);
        due("empty", emptyOf(x, 0), THROWN);
        for (int what = 0; what < 3; what++) {
            due("0 for what there isn't", x.size(what), 0);
        }
        due("fault", x.fault(), 0);
        due("where", x.where(), -1);
        due("NONE", CarriedLetters.NONE, -1);
    }

    private static void noScriptComesFirst() {
        about("III: Refusals of a call are met in the order in which they are told: no SCRIPT ahead of all else");
        for (int far : FAR) {
            CarriedLetters x = new CarriedLetters();
            refused(x, "about", x.about(far), 1);
            refused(x, "readings", x.readings(far, 0), 1);
            refused(x, "reading", x.reading(far, 0, far), 1);
            refused(x, "carry", x.carry(far), 1);
            refused(x, "apart", x.apart(far, 0), 1);
            refused(x, "turned", x.turned(0), 1);
            refused(x, "turnedOut", x.turnedOut(0, far), 1);
            refused(x, "words", x.words(far), 1);
            refused(x, "failing", x.failing(far, far), 1);
            refused(x, "fails", x.fails(far, far), 1);
            refused(x, "sources", x.sources(far, 0), 1);
            refused(x, "source", x.source(far, 0, far), 1);
            refused(x, "idle", x.idle(far, far), 1);
            refused(x, "worst", x.worst(far), 1);
            refused(x, "aside", x.aside(far, far, far), 1);
        }
    }

    /** Each call once refused by a number far out and then not at all. */
    private static void answeredLeavesNone() {
        about("III: TROUBLE: 0 it wasn't");
        for (int k = 0; k < NAMES.length; k++) {
            CarriedLetters x = told(NAMES[k].equals("firstFail") ? "script letters 3;kind kk of a;pass again;rule a to aa" : FIRST);
            x.carry(word("aa"));
            x.kind(-1);
            due("refused", x.trouble(), 1);
            due(NAMES[k] + " is answered", GOOD[k].of(x) == -1 ? -1 : 0, 0);
            due(NAMES[k] + " leaves no trouble", x.trouble(), 0);
        }
        CarriedLetters x = told(FIRST);
        x.aside(0, 0, 1);
        x.kind(-1);
        due("undo", x.undo() ? 1 : 0, 1);
        due("trouble", x.trouble(), 0);
        x.kind(-1);
        due("script", tell(x, FIRST), 2);
        due("trouble", x.trouble(), 0);
        // -2 is an answer, no refusal.
        CarriedLetters clear = told(PASS + "rule a to c;rule c to a");
        clear.kind(-1);
        answered(clear, "goes", clear.goes(0, 0, 7), -2);
        clear.kind(-1);
        answered(clear, "unclear", clear.unclear(0), -2);
        clear.kind(-1);
        answered(clear, "worst", clear.worst(2), -2);
        CarriedLetters all = told(TWO + "pass again;rule a to b;rule b to a");
        all.kind(-1);
        answered(all, "longest", all.longest(2), -2);
    }

    private static CarriedLetters refusedBefore(CarriedLetters x) {
        refused(x, "the call ahead", x.kind(-1), 1);
        return x;
    }

    /** Each kind of answer of a call on its own: none of them may leave the trouble of the call ahead. */
    private static void eachAnswerLeavesNone() {
        about("III: TROUBLE: 0 it wasn't, whatever was asked for");
        CarriedLetters x = told(FIRST);
        int[] counts = {3, 1, 2, 4};
        for (int what = 0; what < 4; what++) {
            answered(x, "about " + what, refusedBefore(x).about(what), counts[what]);
        }
        int[][] passes = {{3, 0, 4}, {1, 1, 3}};
        for (int p = 0; p < 2; p++) {
            for (int what = 0; what < 3; what++) {
                answered(x, "pass " + p + " " + what, refusedBefore(x).pass(p, what), passes[p][what]);
            }
        }
        int[][] rules = {{2, 1, 511, 511, 0}, {1, 1, 511, 256, 1}, {1, 0, 5, 511, 0}};
        x.aside(0, 1, 1);
        for (int i = 0; i < 3; i++) {
            for (int what = 0; what < 5; what++) {
                answered(x, "rule " + i + " " + what, refusedBefore(x).rule(0, i, what), rules[i][what]);
            }
        }
        answered(x, "MATCH", refusedBefore(x).letter(0, 0, 0, 1), 1);
        answered(x, "OUTCOME", refusedBefore(x).letter(0, 0, 1, 0), 2);
        answered(x, "serves again", refusedBefore(x).aside(0, 1, 0), 0);
        answered(x, "a beginning of no RULE's own", refusedBefore(x).ends(0, 0), 0);
        answered(x, "not CLEAR", refusedBefore(x).clear(0), 0);
        answered(x, "0 with a PIECE of none", refusedBefore(x).unclear(0), 0);
        answered(x, "a READING", refusedBefore(x).readings(0, A), 1);
        CarriedLetters bold = told(BOLD);
        answered(bold, "no READING", refusedBefore(bold).readings(0, A), 0);
        answered(x, "not SURE", refusedBefore(x).sure(), 0);
        CarriedLetters sure = told(PASS + "rule a to ab;rule b to a");
        answered(sure, "CLEAR", refusedBefore(sure).clear(0), 1);
        answered(sure, "SURE", refusedBefore(sure).sure(), 1);
        CarriedLetters again = told(TWO + "pass again;rule a to ab;rule b to a");
        answered(again, "CLEAR, but again: not SURE", refusedBefore(again).sure(), 0);
        CarriedLetters unclear = told(PASS + "rule a to b");
        answered(unclear, "not SURE", refusedBefore(unclear).sure(), 0);
        answered(unclear, "DOUBLED", refusedBefore(unclear).reversible(1), 0);
        answered(unclear, "the first", refusedBefore(unclear).failing(1, 0), word("b"));
        answered(unclear, "ALIKE to it", refusedBefore(unclear).failing(1, 1), A);
        CarriedLetters fails = told("script letters 3;pass again;rule a to b;rule b to a;rule c to cc");
        answered(fails, "TOO LONG", refusedBefore(fails).fails(1, 0), 1);
        answered(fails, "ENDLESS", refusedBefore(fails).fails(1, 1), 2);
        answered(fails, "TOO LONG", refusedBefore(fails).firstFail(1, 0), word("c"));
        answered(fails, "ENDLESS", refusedBefore(fails).firstFail(1, 1), A);
    }

    private static void callsWithoutANumber() {
        about("III: TROUBLE of the latest call that may be refused (those of which a number is told here)");
        CarriedLetters x = told(FAILING);
        int[] numbers = {0, 1, 2, 5, 6, 7, 4};
        Call[] calls = {y -> y.sure(), y -> y.kind(0), y -> y.carry(0), y -> y.aside(0, 0, 0), y -> y.carry(word("c")), y -> y.carry(A),
            y -> tell(y, "pass")};
        for (int k = 0; k < calls.length; k++) {
            calls[k].of(x);
            due("trouble", x.trouble(), numbers[k]);
            x.fault();
            x.where();
            x.size(9);
            x.size(0);
            emptyOf(x, 0);
            emptyOf(x, 9);
            due("is left by fault, where, size, empty, trouble", x.trouble(), numbers[k]);
            x.feed(1, 2, 3, 4, 5);
            due("is left by feed", x.trouble(), numbers[k]);
            due("the place is told of a fault alone", x.where(), numbers[k] == 4 ? 0 : -1);
            x.script(0);
        }
        CarriedLetters full = new CarriedLetters();
        feed(full, "x".repeat(900));
        full.script(901);
        due("more than 900", full.feed(1, 2, 3, 4, 5), -1);
        due("a feed that brings nothing leaves it, too", full.trouble(), 2);
    }

    // ---- words of calls

    private static final Worded[] TAKING = {(x, w) -> x.readings(0, w), (x, w) -> x.reading(0, w, 0), (x, w) -> x.carry(w), (x, w) -> x.apart(w, A),
        (x, w) -> x.apart(A, w), (x, w) -> x.turned(w), (x, w) -> x.turnedOut(w, 0), (x, w) -> x.sources(1, w), (x, w) -> x.source(1, w, 0)};

    private static void wordsThatCanBe() {
        about("I: A WORD of a call: 1 to 8 LETTERS as bytes, the last one lowest");
        CarriedLetters x = told(PASS + "rule ab to ba");
        StringBuilder letters = new StringBuilder();
        for (int k = 0; k < 8; k++) {
            letters.append((char) ('h' - k));
            due("one letter more", x.carry(word(letters.toString())), k + 1);
            due("the first", x.out(0), 7);
            due("the last one is the lowest", x.out(k), 7 - k);
            due("readings", x.readings(0, word(letters.toString())), k == 7 ? 2 : 1);
            due("turned", x.turned(word(letters.toString())), k + 1);
            due("apart", x.apart(word(letters.toString()), word("h")), k);
            due("sources", x.sources(1, word(letters.toString())), 0);
        }
    }

    private static void wordsThatCannotBe() {
        about("I: nothing ahead of the first (a WORD that can't be is refused)");
        for (Worded call : TAKING) {
            CarriedLetters x = told(PASS + "rule ab to ba");
            refused(x, "no letters", call.of(x, 0), 2);
            for (int at = 0; at < 8; at++) {
                long gap = word("abcdefgh") & ~(255L << (8 * at));
                if (at < 7) {
                    refused(x, "nothing at " + at, call.of(x, gap), 2);
                }
                for (int sign : new int[] {1, 32, 64, 'A', 'H', 96, 'i', 'z', 127, 128, 'a' + 128, 255}) {
                    refused(x, sign + " at " + at, call.of(x, gap | (long) sign << (8 * at)), 2);
                }
            }
            refused(x, "a blank ahead", call.of(x, word(" a")), 2);
            refused(x, "i alone", call.of(x, 'i'), 2);
            refused(x, "below a", call.of(x, 96), 2);
            refused(x, "nothing behind", call.of(x, word("a") << 8), 2);
            refused(x, "nothing but the first", call.of(x, word("a") << 56), 2);
            refused(x, "-1", call.of(x, -1), 2);
            refused(x, "the least", call.of(x, Long.MIN_VALUE), 2);
            refused(x, "the most", call.of(x, Long.MAX_VALUE), 2);
            refused(x, "negative", call.of(x, -word("a")), 2);
        }
    }

    // ---- 2 .. 5

    private static int four(String bytes) {
        return (int) word(bytes);
    }

    private static void feeding() {
        about("2: Twenty bytes come behind THE TAPE, of each number the highest first: how many it has");
        CarriedLetters x = new CarriedLetters();
        due("the first", x.feed(four("scri"), four("pt l"), four("ette"), four("rs 2"), four(";pas")), 20);
        due("behind them", x.feed(four("s;ru"), four("le a"), four(" to "), four("hgfe"), four("    ")), 40);
        due("in order", x.script(36), 1);
        for (int k = 0; k < 4; k++) {
            due("the highest first", x.letter(0, 0, 1, k), 7 - k);
        }
        CarriedLetters high = new CarriedLetters();
        for (int number : new int[] {-1, Integer.MIN_VALUE, 0, Integer.MAX_VALUE}) {
            high.script(0);
            due("any number", high.feed(number, number, number, number, number), 20);
            high.script(20);
            due("its first byte begins no TOKEN", high.fault() * 100 + high.where(), 100);
        }
        about("2: NONE, and none comes, if there would be more than 900");
        CarriedLetters full = new CarriedLetters();
        String text = PASS + "rule a to" + " ".repeat(869);
        feed(full, text.substring(0, 880));
        due("880", full.size(0), 880);
        int[] last = twenty(" ".repeat(19) + "b", 0);
        due("900 is not more", full.feed(last[0], last[1], last[2], last[3], last[4]), 900);
        for (int k = 0; k < 3; k++) {
            due("more", full.feed(0, 0, 0, 0, 0), -1);
            due("none came", full.size(0), 900);
        }
        due("what was there is as it was", full.script(900), 1);
        due("b", full.letter(0, 0, 1, 0), 1);
        due("it is empty then", full.feed(0, 0, 0, 0, 0), 20);
    }

    private static void scriptOfN() {
        about("3: script: NONE: 2 (n; THE TAPE stays)");
        CarriedLetters x = new CarriedLetters();
        refused(x, "one byte of none", x.script(1), 2);
        feed(x, PASS + "rule a to b");
        due("bytes", x.size(0), 40);
        for (int far : FAR) {
            refused(x, "n " + far, x.script(far), 2);
            due("THE TAPE stays", x.size(0), 40);
        }
        refused(x, "one more than there are", x.script(41), 2);
        due("no fault of it", x.fault(), 0);
        due("nor a place", x.where(), -1);
        due("all there are", x.script(40), 1);
        refused(x, "2 ahead of 4", x.script(1), 2);
        refused(x, "none of none: a fault", x.script(0), 4);
        due("1", x.fault(), 1);
        due("at 0", x.where(), 0);
        feed(x, "?" + PASS);
        refused(x, "none of some: a fault", x.script(0), 4);
        due("at 0", x.where(), 0);
        due("it is empty then", x.size(0), 0);

        about("3: no RULE is put aside, nothing CARRIED, nothing to undo");
        CarriedLetters y = told(FIRST);
        y.aside(0, 0, 1);
        y.aside(1, 0, 1);
        y.carry(word("aa"));
        due("the same again", tell(y, FIRST), 2);
        due("serves", y.rule(0, 0, 4), 0);
        due("serves", y.rule(1, 0, 4), 0);
        due("nothing to undo", y.size(1), 0);
        due("nothing", y.undo() ? 1 : 0, 0);
        due("nothing CARRIED", y.size(2), 0);
        refused(y, "out", y.out(0), 1);
        refused(y, "behind", y.behind(0), 1);
        refused(y, "served", y.served(0, 0), 1);
        due("the first that is aside now", y.aside(0, 1, 1), 1);
    }

    /** All that a script tells, on an object that was told others ahead of it and on a new one. */
    private static void scriptAnew() {
        about("3: The first n bytes of THE TAPE are the SCRIPT from now on: nothing of those ahead of it is left");
        String[] texts = {
            "script letters 4;kind kk of abcdefg;kind kl of h;pass again;rule after kk abc before kl to aaaa;rule hhh to hgfe;rule a to b;pass again;"
                    + "rule aa to a;rule bb to b;rule cab to c;pass;rule d to none;rule after edge e before edge to h",
            "script letters 2;pass;rule a to none;rule b to c",
            "script letters 3;kind kl of ab;pass;rule c to d;rule aaa before kl to none;rule d to none;rule e to none;pass;rule b to hh"};
        for (int first = 0; first < 3; first++) {
            for (int then = 0; then < 3; then++) {
                CarriedLetters x = new CarriedLetters();
                for (int k = 0; k < 3; k++) {
                    tell(x, texts[first]);
                    for (int i = 0; i < 8; i++) {
                        x.aside(i % 3, i / 3, 1);
                    }
                    x.comeBack(2);
                    x.worst(2);
                }
                for (int k = 0; k < 2; k++) {
                    tell(x, texts[then]);
                    asNew(x, told(texts[then]));
                }
            }
        }
    }

    private static void asNew(CarriedLetters x, CarriedLetters fresh) {
        for (int what = 0; what < 4; what++) {
            due("about " + what, x.about(what), fresh.about(what));
            due("kind " + what, x.kind(what), fresh.kind(what));
        }
        for (int p = 0; p < 3; p++) {
            due("again " + p, x.pass(p, 1), fresh.pass(p, 1));
            due("states " + p, x.pass(p, 2), fresh.pass(p, 2));
            due("pieces " + p, x.pieces(p), fresh.pieces(p));
            due("idle " + p, x.idle(p, 2), fresh.idle(p, 2));
            for (int i = 0; i < 4; i++) {
                for (int what = 0; what < 5; what++) {
                    due("rule " + p + " " + i + " " + what, x.rule(p, i, what), fresh.rule(p, i, what));
                }
                due("ends " + p + " " + i, x.ends(p, i), fresh.ends(p, i));
            }
        }
        for (String letters : new String[] {"a", "b", "c", "h", "aaab", "abch", "hhhe", "dcba", "babca", "cabbage"}) {
            due("carry " + letters, x.carry(word(letters)), fresh.carry(word(letters)));
            due("trouble of " + letters, x.trouble(), fresh.trouble());
            due("its first letter", x.out(0), fresh.out(0));
            due("turned " + letters, x.turned(word(letters)), fresh.turned(word(letters)));
            due("trouble of it", x.trouble(), fresh.trouble());
        }
        due("words", x.words(2), fresh.words(2));
        due("doubled", x.doubled(2), fresh.doubled(2));
        due("lost", x.lost(2), fresh.lost(2));
        due("worst", x.worst(2), fresh.worst(2));
        due("empty", emptyOf(x, 0), emptyOf(fresh, 0));
        due("to undo", x.size(1), 0);
    }

    private static void scriptStays() {
        about("3: script: NONE: 4 (the SCRIPT stays)");
        CarriedLetters x = told(FIRST);
        x.aside(0, 1, 1);
        x.carry(word("aabb"));
        int doubled = x.doubled(3);
        // Texts that go far before their fault: nothing of them may stay.
        refused(x, "fault", tell(x, "script letters 4;kind zz of h;pass again;rule a to h;rule b to h;pass;pass;pass"), 4);
        due("source", x.about(0), 3);
        due("kinds", x.about(1), 1);
        due("passes", x.about(2), 2);
        due("rules", x.about(3), 4);
        due("vow", x.kind(0), 5);
        due("again", x.pass(0, 1), 0);
        due("states", x.pass(0, 2), 4);
        due("aside", x.rule(0, 1, 4), 1);
        due("carried", x.size(2), 3);
        due("out", x.out(0), 0);
        due("served", x.served(0, 0), 1);
        due("doubled", x.doubled(3), doubled);
        due("to undo", x.size(1), 1);
        due("undo", x.undo() ? 1 : 0, 1);
        due("serves", x.rule(0, 1, 4), 0);
        refused(x, "two faults", tell(x, "?"), 4);
        refused(x, "two faults", tell(x, "script letters 2;pass;rule a to b;rule"), 4);
        carries(x, "ab", "c");
    }

    private static void faultAndPlace() {
        about("4: The FAULT of the latest script() not refused by 2; 0 without one");
        CarriedLetters x = new CarriedLetters();
        due("none yet", x.fault(), 0);
        x.script(1);
        due("refused by 2", x.fault(), 0);
        tell(x, "  pass");
        due("6", x.fault(), 6);
        x.script(99);
        x.kind(0);
        due("it stays", x.fault(), 6);
        tell(x, "?");
        due("the latest", x.fault(), 1);
        tell(x, FIRST);
        due("without one", x.fault(), 0);
        about("5: Its place, if the latest call that may be refused was by 4; NONE else");
        tell(x, "  pass");
        due("place", x.where(), 2);
        due("asked again", x.where(), 2);
        x.kind(0);
        due("answered: another call", x.where(), -1);
        tell(x, "?");
        due("place", x.where(), 0);
        x.script(5);
        due("refused by 2", x.where(), -1);
        due("the fault is told yet", x.fault(), 1);
        tell(x, "  pass");
        x.undo();
        due("undo may be refused, too", x.where(), -1);
    }

    // ---- numbers far out

    /** On an object of its own, which is so used for far less than 512 calls. */
    private static void far(String name, String text, Numbered call, int trouble, int... alsoOut) {
        CarriedLetters x = told(text);
        for (int number : FAR) {
            refused(x, name + " " + number, call.of(x, number), trouble);
        }
        for (int number : alsoOut) {
            refused(x, name + " " + number, call.of(x, number), trouble);
        }
    }

    private static void farScript() {
        about("6: NONE: 1 (another what)");
        far("about", FIRST, (y, k) -> y.about(k), 1, 4, 5);
        about("7: kind, NONE: 1");
        far("kind", FIRST, (y, k) -> y.kind(k), 1, 1, 4);
        about("8: pass, NONE: 1");
        far("pass", FIRST, (y, k) -> y.pass(k, 0), 1, 2, 3);
        far("what", FIRST, (y, k) -> y.pass(0, k), 1, 3, 4);
        about("9: rule, NONE: 1");
        far("pass", FIRST, (y, k) -> y.rule(k, 0, 0), 1, 2, 3);
        far("rule", FIRST, (y, k) -> y.rule(0, k, 0), 1, 3, 8);
        far("rule of the other pass", FIRST, (y, k) -> y.rule(1, k, 0), 1, 1, 2, 3);
        far("what", FIRST, (y, k) -> y.rule(0, 0, k), 1, 5, 6);
        about("10: letter, NONE: 1");
        far("pass", FIRST, (y, k) -> y.letter(k, 0, 0, 0), 1, 2);
        far("rule", FIRST, (y, k) -> y.letter(0, k, 0, 0), 1, 3);
        far("what", FIRST, (y, k) -> y.letter(0, 0, k, 0), 1, 2);
        far("k", FIRST, (y, k) -> y.letter(0, 0, 0, k), 1, 2, 3, 4);
        far("k of an outcome", FIRST, (y, k) -> y.letter(0, 0, 1, k), 1, 1, 2, 4);
        far("k of none", FIRST, (y, k) -> y.letter(0, 2, 1, k), 1, 0, 1);
    }

    private static void farMachine() {
        CarriedLetters x = told(FIRST);
        about("11: goes: 1 (no such PASS, STATE, LETTER)");
        far("pass", FIRST, (y, k) -> y.goes(k, 0, 0), 1, 2, 3);
        far("state", FIRST, (y, k) -> y.goes(0, k, 0), 1, 4, 5, 25, 33);
        far("letter", FIRST, (y, k) -> y.goes(0, 0, k), 1, 8, 9);
        about("12: depth: 1 (no such PASS, STATE)");
        far("pass", FIRST, (y, k) -> y.depth(k, 0), 1, 2, 3);
        far("state", FIRST, (y, k) -> y.depth(0, k), 1, 4, 5);
        far("state of the other pass", FIRST, (y, k) -> y.depth(1, k), 1, 3, 4);
        about("13: ends: 1 (no such PASS, STATE)");
        far("pass", FIRST, (y, k) -> y.ends(k, 0), 1, 2, 3);
        far("state", FIRST, (y, k) -> y.ends(0, k), 1, 4, 5);
        for (int letter = 0; letter < 8; letter++) {
            answered(x, "each LETTER", x.goes(0, 3, letter), -2);
        }
    }

    private static void farPieces() {
        CarriedLetters x = told(FIRST);
        about("14, 16, 17: pieces, clear, unclear: 1 (no such PASS)");
        far("pieces", FIRST, (y, k) -> y.pieces(k), 1, 2, 3);
        far("clear", FIRST, (y, k) -> y.clear(k), 1, 2, 3);
        far("unclear", FIRST, (y, k) -> y.unclear(k), 1, 2, 3);
        about("15: piece, NONE: 1 (i, too)");
        far("pass", FIRST, (y, k) -> y.piece(k, 0), 1, 2, 3);
        far("i", FIRST, (y, k) -> y.piece(0, k), 1, 11, 16);
        far("i of the other pass", FIRST, (y, k) -> y.piece(1, k), 1, 9, 10);
        about("18: readings, NONE: 1; 2");
        far("1 ahead of 2", FIRST, (y, k) -> y.readings(k, 0), 1, 2, 3);
        refused(x, "2", x.readings(1, 0), 2);
        about("19: reading, NONE: 1; 2; 1 (i; there is no READING)");
        far("1 ahead of 2", FIRST, (y, k) -> y.reading(k, 0, 0), 1, 2, 3);
        far("2 ahead of i", FIRST, (y, k) -> y.reading(0, 0, k), 2, 99);
        far("i", FIRST, (y, k) -> y.reading(0, word("cc"), k), 1, 2, 3);
        CarriedLetters none = told(BOLD);
        answered(none, "no READING", none.readings(0, word("a")), 0);
        far("no READING", BOLD, (y, k) -> y.reading(0, word("a"), k), 1, 0, 1);
        far("none of the end", BOLD, (y, k) -> y.reading(0, word("cca"), k), 1, 0, 1, 2);
        answered(none, "the eighth", none.reading(0, word("cdefghcd"), 7), 11);
        far("no ninth", BOLD, (y, k) -> y.reading(0, word("cdefghcd"), k), 1, 8, 9);
        about("20: sure, NONE: 1 (no SCRIPT)");
        CarriedLetters no = new CarriedLetters();
        refused(no, "sure", no.sure(), 1);
    }

    private static CarriedLetters carried(CarriedLetters x) {
        due("carry", x.carry(word("aa")), 2);
        return x;
    }

    private static void farCarried() {
        CarriedLetters x = told(FIRST);
        about("22 .. 26: nothing CARRIED");
        refused(x, "out", x.out(0), 1);
        refused(x, "behind", x.behind(0), 1);
        refused(x, "outOf", x.outOf(0, 0), 1);
        refused(x, "rounds", x.rounds(0), 1);
        refused(x, "served", x.served(0, 0), 1);
        due("size", x.size(2), 0);
        due("carry", x.carry(word("aa")), 2);
        about("22: out, NONE: 1");
        far("k", FIRST, (y, k) -> carried(y).out(k), 1, 2, 3, 60);
        about("23: behind, NONE: 1");
        far("pass", FIRST, (y, k) -> carried(y).behind(k), 1, 2, 3);
        about("24: outOf, NONE: 1");
        far("pass", FIRST, (y, k) -> carried(y).outOf(k, 0), 1, 2, 3);
        far("k", FIRST, (y, k) -> carried(y).outOf(0, k), 1, 2, 3, 60);
        about("25: rounds, NONE: 1");
        far("pass", FIRST, (y, k) -> carried(y).rounds(k), 1, 2, 3);
        about("26: served, NONE: 1");
        far("pass", FIRST, (y, k) -> carried(y).served(k, 0), 1, 2, 3);
        far("rule", FIRST, (y, k) -> carried(y).served(0, k), 1, 3, 8, 9);
        far("rule of the other pass", FIRST, (y, k) -> carried(y).served(1, k), 1, 1, 2);
        refused(x, "out", x.out(2), 1);
        refused(x, "behind", x.behind(-1), 1);
        refused(x, "served", x.served(2, 0), 1);
        due("they leave what was CARRIED", x.size(2), 2);
        due("all of it", x.out(1), 1);
        CarriedLetters empty = told(PASS + "rule a to none;pass");
        answered(empty, "how many came out (0, too)", empty.carry(A), 0);
        refused(empty, "there is no first", empty.out(0), 1);
        refused(empty, "nor behind a PASS", empty.outOf(1, 0), 1);
        answered(empty, "none behind it", empty.behind(1), 0);
        answered(empty, "one ROUND", empty.rounds(1), 1);
        answered(empty, "it SERVED", empty.served(0, 0), 1);
    }

    private static void carriedThenRefused() {
        about("21: carry, NONE: 1; 2; 6; 7 (of one that was refused: nothing)");
        long[] words = {0, word("i"), word("c"), A, word("dc"), word("ad")};
        int[] troubles = {2, 2, 6, 7, 6, 7};
        for (int k = 0; k < words.length; k++) {
            CarriedLetters x = told(FAILING);
            due("carry", x.carry(word("dd")), 2);
            due("out", x.out(1), 3);
            refused(x, "carry", x.carry(words[k]), troubles[k]);
            refused(x, "out", x.out(0), 1);
            refused(x, "behind", x.behind(0), 1);
            refused(x, "behind the last", x.behind(1), 1);
            refused(x, "outOf", x.outOf(0, 0), 1);
            refused(x, "rounds", x.rounds(0), 1);
            refused(x, "served", x.served(0, 0), 1);
            due("size", x.size(2), 0);
            due("carry again", x.carry(word("d")), 1);
            due("out", x.out(0), 3);
            due("nothing served in it", x.served(0, 0) + x.served(0, 1) + x.served(0, 2), 0);
        }
        about("21: What was CARRIED latest is told by those below");
        CarriedLetters y = told(FIRST);
        y.carry(word("aa"));
        y.aside(0, 1, 1);
        y.turned(word("h"));
        y.turnedOut(word("hh"), 0);
        y.apart(word("abc"), word("hhh"));
        y.worst(3);
        y.comeBack(3);
        y.undo();
        y.carry(word("bbbb"));
        due("the latest", y.size(2), 1);
        due("behind", y.behind(0), 4);
        due("the first served no more", y.served(0, 1), 0);
        y.script(99);
        tell(y, "?");
        due("a refused script leaves it", y.size(2), 1);
    }

    private static void apartRefused() {
        about("27: apart, NONE: 1; 2; 6; 7 (of the first, then of the second)");
        CarriedLetters x = told(FAILING);
        long endless = A;
        long tooLong = word("c");
        long good = word("dd");
        answered(x, "both", x.apart(good, good), 0);
        refused(x, "2 of the first", x.apart(0, good), 2);
        refused(x, "2 of the second", x.apart(good, 0), 2);
        refused(x, "2 ahead of 6", x.apart(tooLong, 0), 2);
        refused(x, "2 ahead of 7", x.apart(0, endless), 2);
        refused(x, "6 of the first", x.apart(tooLong, good), 6);
        refused(x, "7 of the first", x.apart(endless, good), 7);
        refused(x, "6 of the second", x.apart(good, tooLong), 6);
        refused(x, "7 of the second", x.apart(good, endless), 7);
        refused(x, "of the first", x.apart(endless, tooLong), 7);
        refused(x, "of the first", x.apart(tooLong, endless), 6);
        about("27: How many changes lead at least");
        CarriedLetters y = told(PASS + "rule h to none;rule g to gggg;pass;rule g to gggg");
        answered(y, "nothing and nothing", y.apart(word("h"), word("hhhhhhhh")), 0);
        answered(y, "nothing and one", y.apart(word("h"), word("a")), 1);
        answered(y, "one and nothing", y.apart(word("a"), word("h")), 1);
        answered(y, "48 and nothing", y.apart(word("ggg"), word("h")), 48);
        answered(y, "51 and 48", y.apart(word("gggabc"), word("ggg")), 3);
        answered(y, "all others", y.apart(word("abababab"), word("cdcdcdcd")), 8);
        answered(y, "one less, one more", y.apart(word("abcdabcd"), word("bcdabcda")), 2);
        answered(y, "a word and itself", y.apart(word("abcdefab"), word("abcdefab")), 0);
    }

    private static void turnedRefused() {
        about("28, 29: turned, turnedOut, NONE: 1; 2; 6; 7; 1 (k)");
        // Turned, e grows, f and g go to and fro; what is d stays.
        CarriedLetters x = told(FAILING);
        answered(x, "d", x.turned(word("dd")), 2);
        refused(x, "2", x.turned(0), 2);
        refused(x, "6", x.turned(word("e")), 6);
        refused(x, "7", x.turned(word("f")), 7);
        refused(x, "7", x.turned(word("a")), 7);
        far("k", FAILING, (y, k) -> y.turnedOut(word("dd"), k), 1, 2, 3);
        far("2 ahead of k", FAILING, (y, k) -> y.turnedOut(word("di"), k), 2, 9);
        far("6 ahead of k", FAILING, (y, k) -> y.turnedOut(word("e"), k), 6, 0);
        far("7 ahead of k", FAILING, (y, k) -> y.turnedOut(word("f"), k), 7, 0);
        answered(x, "the last", x.turnedOut(word("dd"), 1), 3);
        due("nothing CARRIED by it", x.size(2), 0);
    }

    private static void farWords() {
        String[] names = {"words", "reversible", "failing", "failing", "doubled", "fails", "fails", "firstFail", "firstFail", "sources", "source",
            "longest", "longestOf", "idle", "comeBack", "lost", "worst"};
        Numbered[] calls = {(y, n) -> y.words(n), (y, n) -> y.reversible(n), (y, n) -> y.failing(n, 0), (y, n) -> y.failing(n, 1),
            (y, n) -> y.doubled(n), (y, n) -> y.fails(n, 0), (y, n) -> y.fails(n, 1), (y, n) -> y.firstFail(n, 0), (y, n) -> y.firstFail(n, 1),
            (y, n) -> y.sources(n, A), (y, n) -> y.source(n, A, 0), (y, n) -> y.longest(n), (y, n) -> y.longestOf(n), (y, n) -> y.idle(0, n),
            (y, n) -> y.comeBack(n), (y, n) -> y.lost(n), (y, n) -> y.worst(n)};
        for (int k = 0; k < calls.length; k++) {
            about("30 .. 43: words up to n (1 .. 5): " + names[k] + ", 2");
            far("n", FIRST, calls[k], 2, 0, 6, 7);
            CarriedLetters x = told(FIRST);
            calls[k].of(x, 1);
            due("n 1 is none of them", x.trouble() == 2 ? 1 : 0, 0);
            calls[k].of(x, 5);
            due("n 5 is none of them", x.trouble() == 2 ? 1 : 0, 0);
        }
        about("32: failing, -1: 1 (what, too); 2; 5 (none is)");
        CarriedLetters unlike = told(UNLIKE);
        far("what", UNLIKE, (y, k) -> y.failing(1, k), 1, 2, 3);
        far("what ahead of n", UNLIKE, (y, k) -> y.failing(0, k), 1, 2);
        far("n ahead of 5", UNLIKE, (y, n) -> y.failing(n, 0), 2, 0, 6);
        refused(unlike, "none is", unlike.failing(5, 0), 5);
        refused(unlike, "none is", unlike.failing(5, 1), 5);
        about("34: fails, NONE: 1 (what, too); 2");
        far("what", UNLIKE, (y, k) -> y.fails(1, k), 1, 2, 6, 7);
        far("what ahead of n", UNLIKE, (y, k) -> y.fails(6, k), 1, 2);
        about("35: firstFail, -1: 1 (what, too); 2; 5 (none does)");
        far("what", UNLIKE, (y, k) -> y.firstFail(1, k), 1, 2, 6, 7);
        far("what ahead of n", UNLIKE, (y, k) -> y.firstFail(6, k), 1, 2);
        refused(unlike, "none does", unlike.firstFail(5, 0), 5);
        refused(unlike, "none does", unlike.firstFail(5, 1), 5);
        CarriedLetters endless = told(TWO + "pass again;rule a to b;rule b to a");
        answered(endless, "one does", endless.firstFail(5, 1), A);
        refused(endless, "none is TOO LONG", endless.firstFail(5, 0), 5);
    }

    private static void sourcesRefused() {
        about("36: sources, NONE: 1; 2 (n, the WORD)");
        CarriedLetters x = told(FIRST);
        refused(x, "n", x.sources(0, word("b")), 2);
        refused(x, "the WORD", x.sources(1, 0), 2);
        refused(x, "both", x.sources(6, 0), 2);
        answered(x, "none", x.sources(5, word("hhhhhhhh")), 0);
        about("37: source, -1: 1 (no SCRIPT); 2; 1 (i)");
        answered(x, "the fourth", x.source(2, word("b"), 3), word("bb"));
        far("i", FIRST, (y, k) -> y.source(2, word("b"), k), 1, 4, 5);
        far("i of none", FIRST, (y, k) -> y.source(5, word("hh"), k), 1, 0, 1);
        far("n ahead of i", FIRST, (y, k) -> y.source(0, word("b"), k), 2, 9);
        far("the WORD ahead of i", FIRST, (y, k) -> y.source(1, 0, k), 2, 9);
    }

    private static void longestRefused() {
        about("38: longest: 0 .. 60; -2 if all FAIL");
        CarriedLetters all = told(TWO + "pass again;rule a to b;rule b to a");
        for (int n = 1; n <= 5; n++) {
            answered(all, "all FAIL", all.longest(n), -2);
            about("39: longestOf, -1: 1; 2; 5 (all FAIL)");
            refused(all, "all FAIL", all.longestOf(n), 5);
        }
        about("38: longest: 0 .. 60");
        CarriedLetters none = told(PASS + "rule a to none;rule b to none");
        answered(none, "0", none.longest(5), 0);
        answered(none, "of the first", none.longestOf(5), A);
        CarriedLetters sixty = told(PASS + "rule a to aaaa;pass;rule a to aaa;rule b to aaab");
        answered(sixty, "60", sixty.longest(5), 60);
        answered(sixty, "of aaaaa", sixty.longestOf(5), word("aaaaa"));
        CarriedLetters more = told(PASS + "rule a to aaaa;rule b to aaab;pass;rule a to aaa;rule b to aaaa");
        answered(more, "61 FAIL", more.longest(5), 60);
        answered(more, "those with a b at all", more.fails(5, 0), 31);
        answered(more, "the first of them", more.firstFail(5, 0), word("aaaab"));
    }

    private static void idleRefused() {
        about("40: idle, NONE: 1 (no such PASS, too); 2");
        CarriedLetters x = told(FIRST);
        far("pass", FIRST, (y, p) -> y.idle(p, 1), 1, 2, 3);
        far("pass ahead of n", FIRST, (y, p) -> y.idle(p, 0), 1, 2, 3);
        far("n", FIRST, (y, n) -> y.idle(1, n), 2, 0, 6);
        about("40: RULES that SERVE for none of them that doesn't FAIL (those put aside, too)");
        CarriedLetters eight = told(TWO + "pass;rule h to a" + ";rule h to a".repeat(7) + ";pass;pass;rule h to a" + ";rule h to a".repeat(6) + ";rule a to a");
        answered(eight, "all eight", eight.idle(0, 5), 255);
        answered(eight, "no RULES", eight.idle(1, 5), 0);
        answered(eight, "all but the eighth", eight.idle(2, 1), 127);
        eight.aside(2, 7, 1);
        answered(eight, "put aside", eight.idle(2, 5), 255);
        CarriedLetters fail = told(PASS + "rule a to a;rule b to b;rule ba to b;pass again;rule b to bb");
        answered(fail, "what serves for one that FAILS alone", fail.idle(0, 5), 6);
        answered(fail, "and makes it FAIL", fail.idle(1, 5), 1);
        CarriedLetters nothing = told(PASS + "rule a to none;rule b to none");
        answered(nothing, "a WORD that comes out as nothing doesn't FAIL", nothing.idle(0, 1), 0);
        CarriedLetters longer = told(PASS + "rule aaa to b");
        answered(longer, "not up to 2", longer.idle(0, 2), 1);
        answered(longer, "up to 3", longer.idle(0, 3), 0);
        answered(longer, "up to 2 again", longer.idle(0, 2), 1);
    }

    private static void backAndWorst() {
        about("41: comeBack: How many that don't FAIL come back just as they were");
        CarriedLetters same = told(PASS + "rule c to d");
        answered(same, "all", same.comeBack(5), 62);
        CarriedLetters all = told(TWO + "pass again;rule a to b;rule b to a");
        answered(all, "all FAIL", all.comeBack(5), 0);
        CarriedLetters none = told(PASS + "rule a to none;rule b to none");
        answered(none, "nothing comes back as nothing", none.comeBack(5), 0);
        CarriedLetters grow = told(TWO + "pass;rule a to c;pass again;rule dd to d;rule c to d");
        answered(grow, "TURNED a is TOO LONG, b comes back", grow.comeBack(1), 1);
        CarriedLetters sixty = told(PASS + "rule a to aaaa;rule b to bbbb;pass;rule a to aaa;rule b to bbb");
        answered(sixty, "60 LETTERS", sixty.longest(5), 60);
        answered(sixty, "come back, too", sixty.comeBack(5), 62);
        about("42: lost, -1: 1; 2; 5 (all do)");
        refused(sixty, "all do", sixty.lost(5), 5);
        refused(same, "all do", same.lost(5), 5);
        refused(all, "all FAIL: none that doesn't", all.lost(5), 5);
        answered(none, "a", none.lost(5), A);
        answered(grow, "a", grow.lost(1), A);
        about("43: worst: of several the first; -2 if none of those that serve makes them fewer");
        CarriedLetters two = told(TWO + "pass;rule c to d;pass;pass;rule c to d" + ";rule c to d".repeat(5) + ";rule a to h;rule b to h");
        answered(two, "of two the first", two.worst(1), 26);
        two.aside(2, 6, 1);
        answered(two, "none is DOUBLED now", two.worst(5), -2);
        two.undo();
        answered(two, "undone", two.worst(5), 26);
        CarriedLetters last = told(TWO + "pass;rule c to d;pass;pass;rule c to d" + ";rule c to d".repeat(6) + ";rule b to a");
        answered(last, "the last RULE of the last PASS", last.worst(1), 27);
        last.aside(2, 7, 1);
        answered(last, "one that is aside is none of those", last.worst(1), -2);
        CarriedLetters like = told(PASS + "rule b to a;rule b to a");
        answered(like, "each without the other makes none fewer", like.worst(3), -2);
        due("they are DOUBLED all the same", like.doubled(1), 1);
        due("and none is put aside", like.rule(0, 0, 4) + like.rule(0, 1, 4) + like.size(1), 0);
        // Without the first those with a c, which it never serves for, FAIL as they did: none of them is ALIKE.
        CarriedLetters fails = told("script letters 3;pass;rule b to a;rule h to h;pass again;rule c to cc");
        answered(fails, "five FAIL, of the others four are", fails.doubled(2), 4);
        answered(fails, "b to a", fails.worst(2), 0);
        CarriedLetters nothing = told(PASS + "rule a to none;rule a to none;rule b to h");
        answered(nothing, "aa, ab, ba", nothing.doubled(2), 3);
        answered(nothing, "without the last a and aa come out as nothing yet", nothing.worst(2), -2);
        nothing.aside(0, 1, 1);
        answered(nothing, "without the first none is", nothing.worst(2), 0);
        // The first keeps a and b unlike if it serves: but it is aside, and asking leaves it so.
        CarriedLetters helps = told(PASS + "rule a to c;pass;rule b to a");
        helps.aside(0, 0, 1);
        answered(helps, "b is", helps.doubled(1), 1);
        answered(helps, "that the first would serve again is no way", helps.worst(1), 10);
        answered(helps, "it is aside yet", helps.rule(0, 0, 4), 1);
        answered(helps, "the second isn't", helps.rule(1, 0, 4), 0);
    }

    private static void asideRefused() {
        about("44: aside, NONE: 1; 2; 5 (it is so already)");
        CarriedLetters x = told(FIRST);
        far("pass", FIRST, (y, p) -> y.aside(p, 0, 1), 1, 2, 3);
        far("rule", FIRST, (y, i) -> y.aside(0, i, 1), 1, 3, 8);
        far("rule of the other pass", FIRST, (y, i) -> y.aside(1, i, 1), 1, 1, 2);
        far("1 ahead of 2", FIRST, (y, is) -> y.aside(2, 0, is), 1, 2);
        far("is", FIRST, (y, is) -> y.aside(0, 0, is), 2, 2, 3);
        refused(x, "no pass", x.aside(2, 0, 1), 1);
        refused(x, "no rule", x.aside(0, 3, 1), 1);
        refused(x, "is", x.aside(0, 0, 2), 2);
        refused(x, "it serves already", x.aside(0, 0, 0), 5);
        due("nothing is aside of all this", x.rule(0, 0, 4) + x.rule(0, 1, 4) + x.rule(0, 2, 4) + x.rule(1, 0, 4), 0);
        due("nor to undo", x.size(1), 0);
        answered(x, "one", x.aside(0, 2, 1), 1);
        refused(x, "is ahead of 5", x.aside(0, 2, 2), 2);
        refused(x, "is ahead of 5", x.aside(0, 2, -1), 2);
        refused(x, "it is aside already", x.aside(0, 2, 1), 5);
        answered(x, "two", x.aside(1, 0, 1), 2);
        answered(x, "one serves again", x.aside(0, 2, 0), 1);
        answered(x, "none is aside then", x.aside(1, 0, 0), 0);
        CarriedLetters all = told(TWO + ("pass" + ";rule a to b".repeat(8) + ";").repeat(2) + "pass" + ";rule a to b".repeat(8));
        for (int k = 0; k < 24; k++) {
            answered(all, "all", all.aside(k / 8, k % 8, 1), k + 1);
        }
        carries(all, "ab", "ab");
        about("45: undo: false: 1 (there is nothing)");
        for (int k = 0; k < 12; k++) {
            due("undo", all.undo() ? 1 : 0, 1);
            due("trouble", all.trouble(), 0);
        }
        for (int k = 0; k < 3; k++) {
            due("nothing", all.undo() ? 1 : 0, 0);
            due("trouble", all.trouble(), 1);
        }
        due("twelve are aside yet", all.aside(0, 0, 0), 11);
    }

    private static void emptyPasses() {
        about("46: empty: NoSuchElementException if there is none such");
        CarriedLetters x = told(TWO + "pass;pass;rule a to b;pass");
        due("0", emptyOf(x, 0), 0);
        due("2", emptyOf(x, 1), 2);
        for (int far : FAR) {
            due("none such " + far, emptyOf(x, far), THROWN);
        }
        due("none such", emptyOf(x, 2), THROWN);
        due("none such", emptyOf(x, 3), THROWN);
        x.aside(1, 0, 1);
        due("all three", emptyOf(x, 2), 2);
        due("by numbers", emptyOf(x, 1), 1);
        due("none such", emptyOf(x, 3), THROWN);
        x.undo();
        due("undone", emptyOf(x, 1), 2);
        due("none such", emptyOf(told(PASS + "rule a to b"), 0), THROWN);
        CarriedLetters eight = told(TWO + "pass" + ";rule a to b".repeat(8));
        for (int i = 0; i < 7; i++) {
            eight.aside(0, i, 1);
            due("one serves yet", emptyOf(eight, 0), THROWN);
        }
        eight.aside(0, 7, 1);
        due("all are put aside", emptyOf(eight, 0), 0);
    }

    private static void sizes() {
        about("47: size: NONE for others; 0 for what there isn't");
        CarriedLetters x = told(PASS + "rule a to none");
        for (int far : FAR) {
            due("another " + far, x.size(far), -1);
        }
        due("another", x.size(3), -1);
        due("no bytes", x.size(0), 0);
        due("nothing to undo", x.size(1), 0);
        due("nothing CARRIED", x.size(2), 0);
        x.carry(A);
        due("no LETTERS came out", x.size(2), 0);
        x.carry(word("bb"));
        due("two did", x.size(2), 2);
        x.carry(0);
        due("refused", x.size(2), 0);
        x.feed(0, 0, 0, 0, 0);
        due("bytes", x.size(0), 20);
    }

    private static void fiveHundredAndTwelve() {
        about("An object is used for at most 512 calls");
        CarriedLetters x = new CarriedLetters();
        feed(x, PASS + "rule a to b");
        x.script(33);
        // Three calls up to here.
        for (int k = 0; k < 508; k++) {
            due("aside", x.aside(0, 0, (k + 1) % 2), (k + 1) % 2);
        }
        due("the 512th", x.carry(A), 1);
        CarriedLetters y = new CarriedLetters();
        String text = PASS + "rule a to b;rule b to a;rule ab to ba";
        // Three calls of feed and two more each time.
        for (int calls = 0; calls + 5 <= 512; calls += 5) {
            feed(y, text);
            due("a script anew", y.script(text.length()), 1);
            due("and words", y.doubled(5), 0);
        }
    }

    public static void main(String[] args) {
        noScript();
        noScriptComesFirst();
        answeredLeavesNone();
        eachAnswerLeavesNone();
        callsWithoutANumber();
        wordsThatCanBe();
        wordsThatCannotBe();
        feeding();
        scriptOfN();
        scriptAnew();
        scriptStays();
        faultAndPlace();
        farScript();
        farMachine();
        farPieces();
        farCarried();
        carriedThenRefused();
        apartRefused();
        turnedRefused();
        farWords();
        sourcesRefused();
        longestRefused();
        idleRefused();
        backAndWorst();
        asideRefused();
        emptyPasses();
        sizes();
        fiveHundredAndTwelve();
        end();
    }
}
