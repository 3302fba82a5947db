/** The boundary cases of the document's head II, a sentence at a time: rounds, passes, the machine, turned, words up to n, pieces, acts. */
public final class CarriedLettersBoundsOfWords extends Asking {
    private static final String TWO = "script letters 2;";
    private static final String PASS = TWO + "pass;";
    private static final String AGAIN = TWO + "pass again;";

    // ---- a round

    private static void lettersAtTheEdge() {
        about("whose SIDE after is what stands just ahead of it .. (edge: nothing does)");
        CarriedLetters first = told(PASS + "rule after edge a to h");
        carries(first, "aaa", "haa");
        carries(first, "a", "h");
        carries(first, "ba", "ba");
        CarriedLetters last = told(PASS + "rule a before edge to h");
        carries(last, "aaa", "aah");
        carries(last, "a", "h");
        carries(last, "ab", "ab");
        CarriedLetters both = told(PASS + "rule after edge ab before edge to h");
        carries(both, "ab", "h");
        carries(both, "abab", "abab");
        CarriedLetters seven = told(TWO + "kind kk of abcdefg;pass;rule after kk a to h;rule b before kk to g");
        carries(seven, "a", "a");
        carries(seven, "b", "b");
        carries(seven, "haha", "haha");
        carries(seven, "aabb", "ahgb");
        CarriedLetters letter = told(PASS + "rule after a a before a to h");
        carries(letter, "aa", "aa");
        carries(letter, "aaa", "aha");
        carries(letter, "aaaa", "ahha");
    }

    private static void sidesOfWhatCameIn() {
        about("both in what came into this ROUND");
        carries(told(PASS + "rule a to none;rule after a b to c;rule after edge b to d"), "ab", "c");
        carries(told(PASS + "rule b to none;rule a before b to c;rule a before edge to d"), "ab", "c");
        // In the next ROUND the edge is where it is then.
        CarriedLetters again = told(AGAIN + "rule after edge a to none;rule after edge b to c");
        carries(again, "aab", "c");
        due("aab, ab, b, c, c", again.rounds(0), 4);
        CarriedLetters passes = told(PASS + "rule a to none;pass;rule after edge b to c");
        carries(passes, "abb", "cb");
    }

    private static void longestThenFirst() {
        about("that of the longest MATCH, of like ones the first, SERVES");
        CarriedLetters x = told(PASS + "rule a to b;rule aa to c;rule aaa to d;rule aaa to e;rule aa to f;rule a to g");
        carries(x, "a", "b");
        carries(x, "aa", "c");
        carries(x, "aaa", "d");
        carries(x, "aaaa", "db");
        carries(x, "aaaaa", "dc");
        carries(x, "aaaaaaaa", "ddc");
        x.aside(0, 2, 1);
        carries(x, "aaaa", "eb");
        x.aside(0, 3, 1);
        carries(x, "aaaa", "cc");
        CarriedLetters sided = told(PASS + "rule aab before b to h;rule aa before b to g;rule a before a to f");
        carries(sided, "aab", "gb");
        carries(sided, "aabb", "hb");
        carries(sided, "aa", "fa");
        carries(told(PASS + "rule after b a to b;".repeat(7) + "rule a to h"), "a", "h");
    }

    private static void behindItsMatch() {
        about("the next place is behind its MATCH. Without one the LETTER itself comes out");
        carries(told(PASS + "rule aba to h"), "ababa", "hba");
        carries(told(PASS + "rule aba to h"), "abaaba", "hh");
        carries(told(PASS + "rule abc to h"), "ab", "ab");
        carries(told(PASS + "rule abc to h"), "abab", "abab");
        carries(told(PASS + "rule a to b"), "hgfedcba", "hgfedcbb");
        CarriedLetters empty = told(PASS + "rule a to none");
        carries(empty, "aaaaaaaa", "");
        due("nothing came out", empty.behind(0), 0);
        due("eight times", empty.served(0, 0), 8);
    }

    private static void sixtyLetters() {
        about("What comes out is no longer than 60 LETTERS, else it is TOO LONG");
        // 7 letters to 28 to 56, and 4 more; e brings 5 more in.
        String text = PASS + "rule a to aaaa;rule b to b;rule e to bd;pass;rule a to aa;rule b to bbbb;pass;rule a to none";
        CarriedLetters x = told(text);
        due("60 on the way", x.carry(word("aaaaaaab")), 4);
        due("60", x.behind(1), 60);
        due("the last of them", x.outOf(1, 59), 1);
        refused(x, "none behind it", x.outOf(1, 60), 1);
        refused(x, "61 on the way, though fewer would come out", x.carry(word("aaaaaaae")), 6);
        refused(x, "64", x.carry(word("aaaaaaaa")), 6);
        CarriedLetters out = told(PASS + "rule a to aaaa;rule e to bd;pass;rule a to aa;rule b to bbbb");
        due("60 at the end", out.carry(word("aaaaaaab")), 60);
        due("size", out.size(2), 60);
        due("the last", out.out(59), 1);
        refused(out, "none behind", out.out(60), 1);
        refused(out, "61 at the end", out.carry(word("aaaaaaae")), 6);
        // 60 letters and nothing behind them: a PIECE of none more does no harm.
        due("none more", told(PASS + "rule a to aaaa;pass;rule a to aa;rule b to bbbb;rule c to none").carry(word("aaaaaaab")), 60);
    }

    private static void tooLongInARound() {
        about("A ROUND of a PASS with again that is TOO LONG");
        // Twice as many with each ROUND: 64 with the sixth.
        CarriedLetters grow = told(AGAIN + "rule a to aa");
        refused(grow, "one", grow.carry(word("a")), 6);
        // One letter more with each ROUND: 41 have 60 behind 19 ROUNDS and 61 with the twentieth, 40 have 60 behind 20.
        CarriedLetters slow = told(TWO + "pass;rule a to aaaa;rule c to cd;pass;rule a to bbbb;rule c to bbbb;rule d to bbb;rule e to bb;pass again;rule after edge b to bb");
        refused(slow, "16 + 16 + 7 + 2: 41", slow.carry(word("aace")), 6);
        refused(slow, "16 + 16 + 4 times 2: 40", slow.carry(word("aaeeee")), 7);
    }

    private static void twentyRounds() {
        about("with again: ROUNDS till one brings out what came in; with 20 that don't it is ENDLESS");
        String text = PASS + "rule a to bbbb;rule c to bbb;rule d to bb;pass again;rule after edge b to none";
        CarriedLetters x = told(text);
        for (int k = 0; k <= 8; k++) {
            String letters = "a".repeat(k / 4) + new String[] {"", "b", "d", "c"}[k % 4];
            if (k > 0) {
                due(k + " letters less", x.carry(word(letters)), 0);
                due("and one ROUND more", x.rounds(1), k + 1);
            }
        }
        due("18 letters less", x.carry(word("aaaad")), 0);
        due("19 ROUNDS", x.rounds(1), 19);
        due("19 letters less", x.carry(word("aaaac")), 0);
        due("20 ROUNDS", x.rounds(1), 20);
        refused(x, "20 letters less: 20 ROUNDS that don't", x.carry(word("aaaaa")), 7);
        refused(x, "21", x.carry(word("aaaaab")), 7);
        refused(x, "nothing is told of it", x.rounds(1), 1);
        CarriedLetters swap = told(AGAIN + "rule a to b;rule b to a");
        refused(swap, "to and fro", swap.carry(word("a")), 7);
        due("what stays ends with one", swap.carry(word("c")), 1);
        due("one", swap.rounds(0), 1);
        CarriedLetters same = told(AGAIN + "rule a to a");
        due("a RULE that changes nothing ends with one, too", same.carry(word("aa")), 2);
        due("one", same.rounds(0), 1);
        due("it served", same.served(0, 0), 2);
        CarriedLetters empty = told(PASS + "rule a to none;pass again;rule a to b;pass again");
        due("nothing comes in", empty.carry(word("a")), 0);
        due("one ROUND", empty.rounds(1), 1);
        due("without RULES, too", empty.rounds(2), 1);
        due("without again one", empty.rounds(0), 1);
        due("without again one, though it changed", told(PASS + "rule a to aa").carry(word("a")), 2);
        CarriedLetters aside = told(AGAIN + "rule a to aa");
        aside.aside(0, 0, 1);
        due("no RULE serves", aside.carry(word("ab")), 2);
        due("one ROUND", aside.rounds(0), 1);
    }

    private static void throughAllPasses() {
        about("CARRIED: through all PASSES, one behind the other");
        CarriedLetters x = told(PASS + "rule a to b;pass;rule b to c;pass;rule c to d");
        carries(x, "abcd", "dddd");
        due("behind the first", x.outOf(0, 0), 1);
        due("behind the second", x.outOf(1, 0), 2);
        due("behind the third", x.outOf(2, 0), 3);
        CarriedLetters back = told(PASS + "rule c to d;pass;rule b to c;pass;rule a to b");
        carries(back, "abcd", "bcdd");
        carries(told(TWO + "pass;pass;pass;rule a to b"), "a", "b");
    }

    // ---- the machine, turned

    private static void machineStates() {
        about("THE MACHINE: its STATES are the beginnings of its RULES' MATCHES, each once, the empty one, too");
        CarriedLetters none = told(TWO + "pass;pass;rule a to b");
        due("no RULES: the empty one", none.pass(0, 2), 1);
        due("it leads nowhere", none.goes(0, 0, 0), -2);
        due("depth", none.depth(0, 0), 0);
        due("ends", none.ends(0, 0), 0);
        due("one RULE", none.pass(1, 2), 2);
        String full = PASS + "rule haa to a;rule gba to a;rule fca to a;rule eda to a;rule dea to a;rule cfa to a;rule bga to a;rule aha to a";
        CarriedLetters most = told(full);
        due("the most", most.pass(0, 2), 25);
        for (int k = 0; k < 8; k++) {
            due("first letters", most.goes(0, 0, k), k + 1);
            due("second letters", most.goes(0, k + 1, 7 - k), k + 9);
            due("third letters", most.goes(0, k + 9, 0), k + 17);
            due("behind the third", most.goes(0, k + 17, 0), -2);
            due("depth", most.depth(0, k + 17), 3);
            due("ends", most.ends(0, k + 17), 1 << (7 - k));
            due("no end ahead", most.ends(0, k + 9), 0);
        }
        refused(most, "no STATE behind the last", most.depth(0, 25), 1);
        CarriedLetters like = told(PASS + "rule aaa to a" + ";rule aaa to a".repeat(7));
        due("each once", like.pass(0, 2), 4);
        due("all end there", like.ends(0, 3), 255);
        about("THE MACHINE: those put aside, too");
        CarriedLetters aside = told(PASS + "rule ab to a;rule c to a");
        aside.aside(0, 0, 1);
        aside.aside(0, 1, 1);
        due("states", aside.pass(0, 2), 4);
        due("ends", aside.ends(0, 3), 1);
        due("ends", aside.ends(0, 2), 2);
        about("THE MACHINE: numbered by length, then by letters");
        CarriedLetters order = told(PASS + "rule ba to a;rule hab to a;rule ab to a;rule b to a");
        // 0, a 1, b 2, h 3, ab 4, ba 5, ha 6, hab 7.
        due("a", order.goes(0, 0, 0), 1);
        due("h", order.goes(0, 0, 7), 3);
        due("ab", order.goes(0, 1, 1), 4);
        due("ba", order.goes(0, 2, 0), 5);
        due("ha", order.goes(0, 3, 0), 6);
        due("hab", order.goes(0, 6, 1), 7);
        due("b both ends and leads on", order.ends(0, 2), 8);
    }

    private static void turnedRound() {
        about("TURNED: PASSES from the last to the first");
        CarriedLetters x = told(PASS + "rule a to b;pass;rule b to c;pass;rule c to d");
        due("d goes all the way", x.turnedOut(word("d"), 0), 0);
        due("c from the second on", x.turnedOut(word("c"), 0), 0);
        about("TURNED: each RULE with an OUTCOME has that for its MATCH (4 LETTERS, too)");
        CarriedLetters four = told(PASS + "rule a to bbbb;rule aab to bbb;rule c to b");
        due("four", four.turned(word("bbbb")), 1);
        due("a", four.turnedOut(word("bbbb"), 0), 0);
        due("three", four.turned(word("bbb")), 3);
        due("two: c c", four.turned(word("bb")), 2);
        due("seven: a, aab", four.turned(word("bbbbbbb")), 4);
        about("TURNED: SIDES as they are");
        CarriedLetters sides = told(PASS + "rule after edge a before c to b;rule d before edge to e");
        due("bc", sides.turnedOut(word("bc"), 0), 0);
        due("bb", sides.turnedOut(word("bb"), 0), 1);
        due("the second one stands behind b", sides.turnedOut(word("bbc"), 1), 1);
        due("e at the edge", sides.turnedOut(word("ee"), 1), 3);
        due("and not ahead of it", sides.turnedOut(word("ee"), 0), 4);
        about("TURNED: those without (an OUTCOME) are aside");
        CarriedLetters none = told(PASS + "rule a to none;rule b to none;pass again;rule c to none");
        due("nothing is turned", none.turned(word("abcdefgh")), 8);
        due("as it was", none.turnedOut(word("abcdefgh"), 7), 7);
        due("they are not put aside for it", none.rule(0, 0, 4), 0);
        about("TURNED: .. of RULES (those put aside aside)");
        CarriedLetters aside = told(PASS + "rule a to bb;rule c to bb;pass;rule b to d");
        due("d d to b b to a", aside.turnedOut(word("dd"), 0), 0);
        aside.aside(0, 0, 1);
        due("the other one", aside.turnedOut(word("dd"), 0), 2);
        aside.aside(1, 0, 1);
        due("none", aside.turnedOut(word("dd"), 0), 3);
        aside.undo();
        aside.undo();
        due("undone", aside.turned(word("dd")), 1);
        due("a", aside.turnedOut(word("dd"), 0), 0);
        about("TURNED: eight OUTCOMES of 4 LETTERS with no beginning in common");
        CarriedLetters eight = told(PASS + "rule b to haaa;rule c to gaaa;rule d to faaa;rule e to eaaa;rule f to daaa;rule g to caaa;rule h to baaa;rule a to aaaa");
        for (int k = 0; k < 8; k++) {
            String outcome = (char) ('h' - k) + "aaa";
            due("one", eight.turned(word(outcome)), 1);
            due("its MATCH", eight.turnedOut(word(outcome), 0), (k + 1) % 8);
            due("two", eight.turned(word(outcome + outcome)), 2);
        }
        about("TURNED: TOO LONG, ENDLESS");
        CarriedLetters grow = told(PASS + "rule aaa to b;rule bb to c;pass;rule bbb to d;rule bb to e");
        // d to bbb to nine a, e to bb to six: six d and an e are 60, with an h 61.
        due("60", grow.turned(word("dddddde")), 60);
        due("the last", grow.turnedOut(word("dddddde"), 59), 0);
        refused(grow, "none behind it", grow.turnedOut(word("dddddde"), 60), 1);
        refused(grow, "61", grow.turned(word("ddddddeh")), 6);
        refused(grow, "63", grow.turnedOut(word("ddddddd"), 0), 6);
        CarriedLetters turn = told(AGAIN + "rule a to b;rule b to a");
        refused(turn, "endless", turn.turned(word("a")), 7);
        due("what stays", turn.turned(word("h")), 1);
    }

    // ---- words up to n

    private static void wordsInOrder() {
        about("WORDS up to n: all of 1 to n LETTERS of SOURCE, in order: by length, then by letters");
        for (int source = 2; source <= 4; source++) {
            CarriedLetters x = told("script letters " + source + ";pass;rule a to h;rule b to h;rule c to h;rule d to h");
            int all = 0;
            int ofLength = 1;
            for (int n = 1; n <= 5; n++) {
                ofLength *= source;
                all += ofLength;
                due("words", x.words(n), all);
                due("all of a length come out as one", x.doubled(n), all - n);
                due("the first of the length", x.source(n, word("h".repeat(n)), 0), word("a".repeat(n)));
                due("the last of the length", x.source(n, word("h".repeat(n)), ofLength - 1), word(("" + (char) ('a' + source - 1)).repeat(n)));
                refused(x, "none behind it", x.source(n, word("h".repeat(n)), ofLength), 1);
                due("how many", x.sources(n, word("h".repeat(n))), ofLength);
                due("none of a longer one", x.sources(n, word("h".repeat(n + 1))), 0);
            }
        }
        CarriedLetters three = told("script letters 3;pass;rule a to h;rule b to h;rule c to h");
        String[] order = {"aa", "ab", "ac", "ba", "bb", "bc", "ca", "cb", "cc"};
        for (int i = 0; i < order.length; i++) {
            due("by letters", three.source(2, word("hh"), i), word(order[i]));
        }
    }

    private static void failsAndDoubled() {
        about("One FAILS, if it is TOO LONG or ENDLESS. Two are ALIKE, if neither FAILS");
        CarriedLetters all = told(AGAIN + "rule a to b;rule b to a");
        due("all fail", all.fails(5, 1), 62);
        due("none is alike", all.doubled(5), 0);
        due("so it is reversible", all.reversible(5), 1);
        CarriedLetters both = told("script letters 4;pass again;rule a to b;rule b to a;rule c to cc");
        due("c, too long", both.fails(1, 0), 1);
        due("a and b, endless", both.fails(1, 1), 2);
        due("d does not", both.longest(1), 1);
        due("d", both.longestOf(1), word("d"));
        about("A WORD is DOUBLED, if some WORD ahead of it is ALIKE");
        CarriedLetters one = told("script letters 3;pass;rule b to a;rule c to a");
        due("b and c", one.doubled(1), 2);
        due("the first", one.failing(1, 0), word("b"));
        due("alike to it", one.failing(1, 1), word("a"));
        CarriedLetters nothing = told("script letters 4;pass;rule a to none;rule b to none;rule c to none;rule d to none");
        due("what comes out as nothing is alike, too", nothing.doubled(1), 3);
        due("all but the first of 1364", nothing.doubled(5), 1363);
        CarriedLetters longer = told(PASS + "rule b to aa");
        due("b and aa", longer.failing(2, 0), word("aa"));
        due("the shorter is ahead", longer.failing(2, 1), word("b"));
        // What comes out may be 60 letters long and be unlike in the last one alone.
        // Each letter comes out as 12: of each length there are two outcomes, which are unlike in one letter.
        CarriedLetters last = told(PASS + "rule b before edge to aaab;rule b to aaaa;rule a to aaaa;pass;rule a to aaa;rule b to aab");
        due("60 letters", last.longest(5), 60);
        due("of the first of five", last.longestOf(5), word("aaaaa"));
        due("the last letter", last.apart(word("aaaaa"), word("aaaab")), 1);
        due("62 less twice five", last.doubled(5), 52);
        CarriedLetters first = told(PASS + "rule after edge b to baaa;rule b to aaaa;rule a to aaaa;pass;rule a to aaa;rule b to baa");
        due("the first letter", first.apart(word("aaaaa"), word("baaaa")), 1);
        due("62 less twice five", first.doubled(5), 52);
    }

    /** So many outcomes that are unlike as there may be, and a few that aren't. */
    private static void nearlyAllUnlike() {
        about("A WORD is DOUBLED, if some WORD ahead of it is ALIKE: 1364 of them");
        CarriedLetters few = told("script letters 4;pass;rule ddd before edge to ddc");
        due("those that end in ddd", few.doubled(5), 1 + 4 + 16);
        due("the first", few.failing(5, 0), word("ddd"));
        due("alike to it", few.failing(5, 1), word("ddc"));
        due("it comes out as one with", few.sources(5, word("ddddc")), 2);
        due("the very last word", few.source(5, word("ddddc"), 1), word("ddddd"));
        CarriedLetters none = told("script letters 4;pass;rule h to a");
        due("none", none.doubled(5), 0);
        due("reversible", none.reversible(5), 1);
    }

    /** What is known of words must not outlive the rules it is known by. */
    private static void learnedAnew() {
        about("ACTS: words up to n come out as the RULES are now");
        CarriedLetters x = told(PASS + "rule b to a;pass;rule a to aa");
        for (int k = 0; k < 3; k++) {
            due("b comes back, a as b", x.comeBack(1), 1);
            due("a", x.lost(1), word("a"));
            due("all come out as a's", x.doubled(2), 4);
            due("not reversible", x.reversible(2), 0);
            due("longest", x.longest(2), 4);
            due("both serve", x.idle(0, 1) + x.idle(1, 1), 0);
            due("worst", x.worst(2), 0);
            due("sources", x.sources(1, word("aa")), 2);
            due("source", x.source(1, word("aa"), 1), word("b"));
            x.aside(0, 0, 1);
            due("both come back", x.comeBack(1), 2);
            refused(x, "none is lost", x.lost(2), 5);
            due("none is DOUBLED", x.doubled(2), 0);
            due("reversible", x.reversible(2), 1);
            due("worst", x.worst(2), -2);
            due("idle", x.idle(0, 1), 1);
            due("sources", x.sources(1, word("aa")), 1);
            if (k == 1) {
                x.aside(0, 0, 0);
            } else {
                x.undo();
            }
        }
        tell(x, TWO + "pass again;rule a to aa");
        due("a script anew", x.fails(1, 0), 1);
        due("b", x.lost(5), -1);
        tell(x, "script letters 3;pass;rule a to b");
        due("more words", x.doubled(1), 1);
        due("none fails now", x.fails(1, 0), 0);
    }

    /** What failed, or how it was tried without a RULE, must not be taken for what comes out now. */
    private static void learnedByTrial() {
        about("WORDS up to n: worst asked again, and for fewer of them than are known");
        CarriedLetters more = told("script letters 3;pass;rule b to a;rule aa to c");
        due("aa is ALIKE to c", more.failing(5, 0), word("b"));
        due("but none of one letter", more.worst(1), 0);
        for (int k = 0; k < 3; k++) {
            due("of five letters", more.worst(5), 0);
            due("of one letter again", more.worst(1), 0);
        }
        more.aside(0, 0, 1);
        due("aa, and what begins with it", more.worst(2), 1);
        due("none of one", more.worst(1), -2);
        due("of two again", more.worst(2), 1);
        about("worst: a WORD that FAILS without one RULE doesn't without another");
        CarriedLetters grows = told("script letters 3;pass;rule a to b;rule c to b;pass again;rule a to aa");
        due("all come out as b", grows.doubled(1), 2);
        due("without either one is: the first", grows.worst(1), 0);
        due("as ahead of it", grows.doubled(1), 2);
        about("36 .. 38: One that FAILS comes out as no LETTERS at all");
        CarriedLetters told = told(PASS + "rule a to h");
        due("a", told.sources(1, word("h")), 1);
        tell(told, AGAIN + "rule a to b;rule b to a");
        due("none does now", told.sources(1, word("h")), 0);
        refused(told, "nor is the first", told.source(1, word("h"), 0), 1);
        due("none is longest", told.longest(1), -2);
        about("WORDS up to n: as many as there may be");
        tell(told, "script letters 4;pass;rule h to g");
        due("all of 1364 come back", told.comeBack(5), 1364);
        due("those of one letter", told.comeBack(1), 4);
        tell(told, "script letters 4;pass;rule h to a");
        due("those without an a: TURNED it is h", told.comeBack(5), 363);
        tell(told, "script letters 4;pass;rule h to g;rule d to c");
        due("of all of them the very last is DOUBLED, too", told.doubled(5), 1364 - 363);
        due("the RULE that makes them so", told.worst(5), 1);
    }

    // ---- pieces

    private static void piecesOfAPass() {
        about("PIECES: the OUTCOME of each RULE that is not aside, by numbers; then each LETTER itself");
        CarriedLetters most = told(PASS + "rule aa to a" + ";rule aa to b".repeat(7) + ";pass");
        due("the most", most.pieces(0), 16);
        for (int i = 0; i < 16; i++) {
            due("in order", most.piece(0, i), i);
        }
        refused(most, "none behind the last", most.piece(0, 16), 1);
        due("without RULES", most.pieces(1), 8);
        due("the first is a", most.piece(1, 0), 8);
        due("the last is h", most.piece(1, 7), 15);
        for (int i = 0; i < 8; i++) {
            most.aside(0, i, 1);
        }
        due("all are aside", most.pieces(0), 8);
        due("the first is a", most.piece(0, 0), 8);
        about("PIECES: but those that are the MATCH of a RULE not aside that anything may stand ahead of and behind");
        CarriedLetters all = told(PASS + "rule a to a;rule b to b;rule c to c;rule d to d;rule e to e;rule f to f;rule g to g;rule h to h");
        due("none itself", all.pieces(0), 8);
        due("the last is a RULE's", all.piece(0, 7), 7);
        refused(all, "none behind", all.piece(0, 8), 1);
        all.aside(0, 7, 1);
        due("h itself now", all.piece(0, 7), 15);
        due("eight yet", all.pieces(0), 8);
        CarriedLetters sided = told(TWO + "kind kk of abcdefg;pass;rule after kk a to b;rule b before kk to c;rule c before edge to d;rule after edge d to e;rule after h e before h to f;rule fg to a");
        due("each has a SIDE, or is longer", sided.pieces(0), 6 + 8);
        CarriedLetters twice = told(PASS + "rule a to b;rule a to c");
        due("a is left out once", twice.pieces(0), 2 + 7);
        twice.aside(0, 0, 1);
        due("the other one takes it yet", twice.pieces(0), 1 + 7);
        twice.aside(0, 1, 1);
        due("now none does", twice.pieces(0), 8);
    }

    private static void readingsOfLetters() {
        about("READINGS: rows of PIECES (told apart by what they are of) that make them");
        CarriedLetters many = told(PASS + "rule aa to a" + ";rule aa to a".repeat(7));
        due("one letter in nine ways", many.readings(0, word("a")), 9);
        due("the most: nine to the eighth", many.readings(0, word("aaaaaaaa")), 43046721);
        due("one way", many.readings(0, word("bcdefghb")), 1);
        CarriedLetters fours = told(PASS + "rule a to b;rule aa to abcd;rule ab to cdab;rule b to abcd");
        due("eight letters of two fours: two and two", fours.readings(0, word("abcdabcd")), 4);
        due("the first", fours.reading(0, word("abcdabcd"), 0), 1);
        due("the second", fours.reading(0, word("abcdabcd"), 1), 1);
        refused(fours, "no third", fours.reading(0, word("abcdabcd"), 2), 1);
        due("none", fours.readings(0, word("a")), 0);
        refused(fours, "none has no first", fours.reading(0, word("a"), 0), 1);
        about("readings: no PIECES of no LETTERS being taken");
        CarriedLetters none = told(PASS + "rule a to none;rule aa to none;rule ab to b");
        due("b by the RULE, b itself", none.readings(0, word("b")), 2);
        due("the RULE's is the first", none.reading(0, word("b"), 0), 2);
        refused(none, "one PIECE alone", none.reading(0, word("b"), 1), 1);
        due("no a", none.readings(0, word("a")), 0);
    }

    private static void clearPasses() {
        about("CLEAR, if no LETTERS have two unlike READINGS (with a PIECE of no LETTERS it isn't)");
        CarriedLetters empty = told(TWO + "pass;pass;rule a to none");
        due("LETTERS alone are", empty.clear(0), 1);
        due("and have no fewest", empty.unclear(0), -2);
        due("a PIECE of none", empty.clear(1), 0);
        due("none have two", empty.unclear(1), 0);
        empty.aside(1, 0, 1);
        due("aside it is no PIECE", empty.clear(1), 1);
        due("-2", empty.unclear(1), -2);
        due("one letter by two RULES", told(PASS + "rule a to h;rule b to h;rule h to a").unclear(0), 1);
        due("one letter by a RULE and itself", told(PASS + "rule a to h").unclear(0), 1);
        due("to itself: no two", told(PASS + "rule h to h").unclear(0), -2);
        due("with a SIDE: two", told(PASS + "rule after edge h to h").unclear(0), 1);
        due("four letters by two RULES", told(PASS + "rule a to abab;rule b to abab").unclear(0), 4);
        due("a b a b, and abab", told(PASS + "rule ab to abab").unclear(0), 4);
        due("ab twice and abab", told(PASS + "rule a to ab;rule b to abab").unclear(0), 4);
        due("aa aaa, aaa aa: five", told(PASS + "rule a to aa;rule b to aaa").unclear(0), 5);
        due("aaaa aaa, aaa aaaa: seven", told(PASS + "rule a to aaaa;rule b to aaa").unclear(0), 7);
        // Ends that come round for ever must not keep it from an answer.
        due("abb bb .. is always ahead of ab bb bb .. by a b", told(PASS + "rule a to ab;rule b to abb;rule h to bb").unclear(0), -2);
        due("never", told(PASS + "rule a to ab;rule b to bb;rule c to c;rule ab to a").unclear(0), -2);
    }

    private static void sureScripts() {
        about("SURE: all PASSES are CLEAR, none has again");
        String clear = "rule a to ab;rule b to a";
        due("one", told(PASS + clear).sure(), 1);
        due("three", told(PASS + clear + ";pass;" + clear + ";pass").sure(), 1);
        due("the first isn't", told(PASS + "rule a to b;pass;" + clear + ";pass;" + clear).sure(), 0);
        due("the last isn't", told(PASS + clear + ";pass;" + clear + ";pass;rule a to b").sure(), 0);
        due("the first has again", told(AGAIN + clear + ";pass;" + clear).sure(), 0);
        due("the last has again", told(PASS + clear + ";pass;pass again").sure(), 0);
        CarriedLetters x = told(PASS + clear + ";rule c to none");
        due("a PIECE of none", x.sure(), 0);
        x.aside(0, 2, 1);
        due("aside", x.sure(), 1);
        x.undo();
        due("undone", x.sure(), 0);
        CarriedLetters again = told(AGAIN + "rule a to b");
        again.aside(0, 0, 1);
        due("again without a RULE that serves", again.sure(), 0);
    }

    // ---- acts

    private static void twelveActs() {
        about("ACTS: a RULE is put aside, or serves again. UNDO: the latest ACT not undone yet (12 are kept)");
        CarriedLetters x = told(PASS + "rule a to b" + ";rule a to b".repeat(7) + ";pass" + ";rule a to b".repeat(8));
        due("nothing yet", x.undo() ? 1 : 0, 0);
        for (int k = 0; k < 12; k++) {
            due("aside", x.aside(k / 8, k % 8, 1), k + 1);
            due("kept", x.size(1), k + 1);
        }
        due("the thirteenth", x.aside(1, 4, 1), 13);
        due("twelve are kept", x.size(1), 12);
        for (int k = 12; k >= 1; k--) {
            due("undo", x.undo() ? 1 : 0, 1);
            due("the latest", x.rule(k / 8, k % 8, 4), 0);
            due("and no other", x.rule((k - 1) / 8, (k - 1) % 8, 4), 1);
            due("one less", x.size(1), k - 1);
        }
        due("the first of the thirteen is lost", x.undo() ? 1 : 0, 0);
        due("trouble", x.trouble(), 1);
        due("it stays aside", x.rule(0, 0, 4), 1);
        CarriedLetters both = told(PASS + "rule a to b");
        both.aside(0, 0, 1);
        both.aside(0, 0, 0);
        due("it serves", both.rule(0, 0, 4), 0);
        due("undo", both.undo() ? 1 : 0, 1);
        due("aside again", both.rule(0, 0, 4), 1);
        due("what is undone is no ACT", both.size(1), 1);
        due("undo", both.undo() ? 1 : 0, 1);
        due("serves", both.rule(0, 0, 4), 0);
        due("nothing left", both.undo() ? 1 : 0, 0);
        both.aside(0, 0, 1);
        both.undo();
        both.aside(0, 0, 1);
        due("an ACT behind one undone", both.size(1), 1);
        both.aside(0, 0, 1);
        due("a refused one is none", both.size(1), 1);
    }

    public static void main(String[] args) {
        lettersAtTheEdge();
        sidesOfWhatCameIn();
        longestThenFirst();
        behindItsMatch();
        sixtyLetters();
        tooLongInARound();
        twentyRounds();
        throughAllPasses();
        machineStates();
        turnedRound();
        wordsInOrder();
        failsAndDoubled();
        nearlyAllUnlike();
        learnedAnew();
        learnedByTrial();
        piecesOfAPass();
        readingsOfLetters();
        clearPasses();
        sureScripts();
        twelveActs();
        end();
    }
}
