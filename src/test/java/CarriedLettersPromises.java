/** Each promise of the document by hand: ordinary inputs, the edges that it names, wrong inputs. */
public final class CarriedLettersPromises extends Asking {
    private static final String FIRST = "script letters 3;kind vow of ac;pass;rule ab to c;rule a before edge to b;"
            + "rule after vow c to none;pass again;rule bb to b";
    private static final String SWAP = "script letters 2;pass again;rule a to b;rule b to a";
    private static final String GROW = "script letters 2;pass again;rule a to aa";

    private static void newObject() {
        about("1");
        CarriedLetters x = new CarriedLetters();
        due("NONE", CarriedLetters.NONE, -1);
        due("trouble", x.trouble(), 0);
        due("fault", x.fault(), 0);
        due("where", x.where(), -1);
        due("size(0)", x.size(0), 0);
        due("size(1)", x.size(1), 0);
        due("size(2)", x.size(2), 0);
        refused(x, "about(0)", x.about(0), 1);
        refused(x, "sure", x.sure(), 1);
        refused(x, "carry", x.carry(word("a")), 1);
        refused(x, "words", x.words(9), 1);
        refused(x, "source", x.source(9, 0, 0), 1);
        refused(x, "apart", x.apart(0, 0), 1);
        refused(x, "turnedOut", x.turnedOut(0, 0), 1);
        refused(x, "aside", x.aside(0, 0, 7), 1);
        due("undo", x.undo() ? 1 : 0, 0);
        due("empty", emptyOf(x, 0), THROWN);
    }

    private static void feeding() {
        about("2");
        CarriedLetters x = new CarriedLetters();
        for (int k = 1; k <= 45; k++) {
            due("feed", x.feed(-1, 0, 0x20202020, 7, Integer.MIN_VALUE), 20 * k);
        }
        x.kind(0);
        due("feed of too much", x.feed(1, 2, 3, 4, 5), -1);
        due("trouble is left", x.trouble(), 1);
        due("size", x.size(0), 900);
        due("script", x.script(900), -1);
        due("fault", x.fault(), 1);
        due("where", x.where(), 0);
        due("feed again", x.feed(1, 2, 3, 4, 5), 20);
        CarriedLetters order = told("script letters 4;pass;rule abc to cba");
        due("highest first", order.letter(0, 0, 0, 0), 0);
        due("then lower", order.letter(0, 0, 1, 0), 2);
    }

    private static void telling() {
        about("3");
        CarriedLetters x = told(FIRST);
        due("trouble", x.trouble(), 0);
        x.carry(word("ab"));
        x.aside(0, 0, 1);
        feed(x, "pass");
        refused(x, "script(-1)", x.script(-1), 2);
        refused(x, "script(21)", x.script(21), 2);
        due("the tape stays", x.size(0), 20);
        refused(x, "script(4)", x.script(4), 4);
        due("the tape is empty", x.size(0), 0);
        due("the script stays", x.about(2), 2);
        due("what is aside stays", x.rule(0, 0, 4), 1);
        due("what was carried stays", x.size(2), 1);
        due("what can be undone stays", x.size(1), 1);
        due("a new script", tell(x, "script letters 2;pass;pass;pass;rule a to b"), 3);
        due("nothing is aside", x.rule(2, 0, 4), 0);
        due("nothing carried", x.size(2), 0);
        refused(x, "out", x.out(0), 1);
        due("nothing to undo", x.size(1), 0);
        due("words are looked through anew", x.doubled(1), 1);
        tell(x, "script letters 2;pass;rule a to c");
        due("and anew", x.doubled(1), 0);
        feed(x, "script letters 2;pass;rule a to bx and what is behind");
        due("the first n bytes alone", x.script(33), 1);
        due("and no more", x.letter(0, 0, 1, 0), 1);
        due("blanks anywhere", tell(x, "  script   letters2 ;pass again;rule   a to   none  "), 1);
    }

    private static void faults() {
        about("4, 5");
        faulty("", 1, 0);
        faulty("   ", 1, 3);
        faulty("script letters 2", 6, 16);
        faulty("script letters 2  ", 6, 18);
        faulty("script letters 2;", 1, 17);
        faulty("script letters 2;pass;", 1, 22);
        faulty("script letters 2;pass", 6, 21);
        faulty("script letters", 1, 14);
        faulty("script 2", 1, 7);
        faulty("script letters a", 1, 15);
        faulty("script letters 1", 2, 15);
        faulty("script letters 5", 2, 15);
        faulty("script letters 0?", 2, 15);
        faulty("script letters 22", 1, 15);
        faulty("script letters 2 2", 1, 17);
        faulty("script letters 2:pass", 1, 16);
        faulty("Script letters 2", 1, 0);
        faulty("foo", 1, 0);
        faulty(";script letters 2", 1, 0);
        faulty("scripts letters 2", 1, 0);
        faulty("kind", 6, 0);
        faulty("rule", 6, 0);
        faulty(" pass", 6, 1);
        String head = "script letters 2;";
        faulty(head + "script", 3, 17);
        faulty(head + "rule", 6, 17);
        faulty(head + "of", 1, 17);
        faulty(head + "2", 1, 17);
        faulty(head + "kind", 1, 21);
        faulty(head + "kind 2", 1, 22);
        faulty(head + "kind k of a", 1, 22);
        for (String name : "script kind pass rule letters of again after before to none edge".split(" ")) {
            faulty(head + "kind " + name + " of a", 1, 22);
            faulty(head + "pass;rule after " + name + " a ?", 1, name.equals("edge") ? 40 : 33);
        }
        faulty(head + "kind abcdefgh of a", 1, 22);
        faulty(head + "kind kk a", 1, 25);
        faulty(head + "kind kk of ai", 1, 28);
        faulty(head + "kind kk of ii", 1, 28);
        faulty(head + "kind kk of aba", 3, 28);
        faulty(head + "kind kk of edge", 3, 28);
        faulty(head + "kind kk of abcdefgh", 1, 28);
        faulty(head + "kind kk of a b", 1, 30);
        faulty(head + "kind kk of a;kind kk of b", 3, 35);
        faulty(head + "kind kk of a;kind kl of b;kind km of c;kind kn of d;kind", 5, 69);
        faulty(head + "pass again again", 1, 28);
        faulty(head + "pass;pass;pass;pass", 5, 32);
        faulty(head + "pass 3", 1, 22);
        String rule = head + "pass;rule ";
        faulty(rule, 1, 27);
        faulty(rule + "abcd to a", 1, 27);
        faulty(rule + "i to a", 1, 27);
        faulty(rule + "to a", 1, 27);
        faulty(rule + "before a b to a", 1, 27);
        faulty(rule + "after kk a to a", 4, 33);
        faulty(rule + "after i a to a", 1, 33);
        faulty(rule + "after 2 a to a", 1, 33);
        faulty(rule + "after abcdefgh a to a", 1, 33);
        faulty(rule + "after ab a to a", 4, 33);
        faulty(rule + "after a to b", 1, 35);
        faulty(rule + "a before kk to a", 4, 36);
        faulty(rule + "a before to a", 1, 36);
        faulty(rule + "a after b to a", 1, 29);
        faulty(rule + "a b", 1, 29);
        faulty(rule + "a to", 1, 31);
        faulty(rule + "a to abcde", 1, 32);
        faulty(rule + "a to ax", 1, 32);
        faulty(rule + "a to a?", 1, 33);
        faulty(rule + "a to none a", 1, 37);
        faulty(rule + "after kk a to a;kind kk of a", 4, 33);
        faulty(rule + "a to a;script", 3, 34);
        StringBuilder nine = new StringBuilder(head + "pass");
        for (int k = 0; k < 8; k++) {
            nine.append(";rule a to b");
        }
        due("eight rules", told(nine.toString()).about(3), 8);
        faulty(nine + ";rule", 5, nine.length() + 1);
        due("eight of each pass", told(nine + ";pass;rule a to b").about(3), 9);
        faulty(head + "pass;rule a to " + (char) 200, 1, 32);
        faulty(head + "pass;\trule a to b", 1, 22);

        CarriedLetters x = new CarriedLetters();
        tell(x, "pass");
        x.script(5);
        due("fault behind a refusal by 2", x.fault(), 6);
        due("where behind a refusal by 2", x.where(), -1);
        tell(x, "  pass");
        x.fault();
        x.size(0);
        x.feed(1, 2, 3, 4, 5);
        emptyOf(x, 0);
        due("calls that can't be refused leave it", x.where(), 2);
        x.kind(0);
        due("another refusal", x.where(), -1);
        due("the fault stays", x.fault(), 6);
        tell(x, "                    script letters 2;pass;rule a to b");
        x.script(0);
        due("the latest", x.where(), 0);
        tell(x, FIRST);
        due("none without", x.fault(), 0);
        due("nor a place", x.where(), -1);
    }

    private static void script() {
        about("6");
        CarriedLetters x = told(FIRST);
        due("about(0)", x.about(0), 3);
        due("about(1)", x.about(1), 1);
        due("about(2)", x.about(2), 2);
        due("about(3)", x.about(3), 4);
        due("trouble", x.trouble(), 0);
        refused(x, "about(4)", x.about(4), 1);
        refused(x, "about(-1)", x.about(-1), 1);

        about("7");
        CarriedLetters kinds = told("script letters 2;kind vow of ae;kind all of hgfedcb;pass;rule a to b;kind ab of c;kind later of h");
        due("kind(0)", kinds.kind(0), 17);
        due("kind(1)", kinds.kind(1), 254);
        due("kind(3)", kinds.kind(3), 128);
        refused(kinds, "kind(4)", kinds.kind(4), 1);
        refused(kinds, "kind(-1)", kinds.kind(-1), 1);
        refused(x, "kind(1)", x.kind(1), 1);

        about("8");
        due("rules", x.pass(0, 0), 3);
        due("again", x.pass(0, 1), 0);
        due("again", x.pass(1, 1), 1);
        due("states", x.pass(0, 2), 4);
        due("no rules", told("script letters 2;pass;pass;rule a to b").pass(0, 0), 0);
        due("the empty state", told("script letters 2;pass;pass;rule a to b").pass(0, 2), 1);
        refused(x, "pass(0, 3)", x.pass(0, 3), 1);
        refused(x, "pass(0, -1)", x.pass(0, -1), 1);
        refused(x, "pass(2, 0)", x.pass(2, 0), 1);
        refused(x, "pass(-1, 0)", x.pass(-1, 0), 1);

        about("9");
        CarriedLetters y = told("script letters 2;kind kk of abh;pass;rule after kk abc before edge to abcd;rule after edge a before h to none;rule a to edge");
        due("match", y.rule(0, 0, 0), 3);
        due("outcome", y.rule(0, 0, 1), 4);
        due("ahead", y.rule(0, 0, 2), 131);
        due("behind", y.rule(0, 0, 3), 256);
        due("ahead", y.rule(0, 1, 2), 256);
        due("behind", y.rule(0, 1, 3), 128);
        due("none", y.rule(0, 1, 1), 0);
        due("anything", y.rule(0, 2, 2), 511);
        due("anything", y.rule(0, 2, 3), 511);
        due("letters e d g e", y.rule(0, 2, 1), 4);
        due("aside", y.rule(0, 2, 4), 0);
        y.aside(0, 2, 1);
        due("aside", y.rule(0, 2, 4), 1);
        due("another is not", y.rule(0, 1, 4), 0);
        refused(y, "rule(0, 0, 5)", y.rule(0, 0, 5), 1);
        refused(y, "rule(0, 3, 0)", y.rule(0, 3, 0), 1);
        refused(y, "rule(0, -1, 0)", y.rule(0, -1, 0), 1);
        refused(y, "rule(1, 0, 0)", y.rule(1, 0, 0), 1);

        about("10");
        due("match", y.letter(0, 0, 0, 2), 2);
        due("outcome", y.letter(0, 0, 1, 3), 3);
        due("edge", y.letter(0, 2, 1, 2), 6);
        refused(y, "behind it", y.letter(0, 0, 0, 3), 1);
        refused(y, "none", y.letter(0, 1, 1, 0), 1);
        refused(y, "k", y.letter(0, 0, 0, -1), 1);
        refused(y, "what", y.letter(0, 0, 2, 0), 1);
        refused(y, "what", y.letter(0, 0, -1, 0), 1);
        refused(y, "rule", y.letter(0, 3, 0, 0), 1);
    }

    private static void machine() {
        CarriedLetters x = told("script letters 2;pass;rule cab to a;rule b to a;rule ba to a;rule ca to a;rule ba to none;rule h to a");
        // States: 0 empty, 1 b, 2 c, 3 h, 4 ba, 5 ca, 6 cab.
        about("11");
        due("states", x.pass(0, 2), 7);
        due("b", x.goes(0, 0, 1), 1);
        due("c", x.goes(0, 0, 2), 2);
        due("h", x.goes(0, 0, 7), 3);
        due("a", x.goes(0, 0, 0), -2);
        due("trouble", x.trouble(), 0);
        due("ba", x.goes(0, 1, 0), 4);
        due("ca", x.goes(0, 2, 0), 5);
        due("cab", x.goes(0, 5, 1), 6);
        due("cabb", x.goes(0, 6, 1), -2);
        refused(x, "letter", x.goes(0, 0, 8), 1);
        refused(x, "letter", x.goes(0, 0, -1), 1);
        refused(x, "state", x.goes(0, 7, 0), 1);
        refused(x, "state", x.goes(0, -1, 0), 1);
        refused(x, "pass", x.goes(1, 0, 0), 1);
        x.aside(0, 0, 1);
        due("those put aside, too", x.goes(0, 5, 1), 6);
        about("12");
        due("empty", x.depth(0, 0), 0);
        due("h", x.depth(0, 3), 1);
        due("ba", x.depth(0, 4), 2);
        due("cab", x.depth(0, 6), 3);
        refused(x, "state", x.depth(0, 7), 1);
        refused(x, "state", x.depth(0, -1), 1);
        refused(x, "pass", x.depth(-1, 0), 1);
        about("13");
        due("empty", x.ends(0, 0), 0);
        due("b", x.ends(0, 1), 2);
        due("c", x.ends(0, 2), 0);
        due("ba", x.ends(0, 4), 20);
        due("ca", x.ends(0, 5), 8);
        due("cab, put aside", x.ends(0, 6), 1);
        refused(x, "state", x.ends(0, 7), 1);
        refused(x, "pass", x.ends(3, 0), 1);
    }

    private static void pieces() {
        CarriedLetters x = told("script letters 3;pass;rule a to b;rule b before c to ab;rule c to a;rule ab to none;pass again;rule a to ab;rule b to a");
        about("14");
        due("pieces", x.pieces(0), 4 + 6);
        due("pieces", x.pieces(1), 2 + 6);
        refused(x, "pieces(2)", x.pieces(2), 1);
        refused(x, "pieces(-1)", x.pieces(-1), 1);
        about("15");
        due("a rule", x.piece(0, 3), 3);
        due("b itself", x.piece(0, 4), 9);
        due("d itself", x.piece(0, 5), 11);
        due("h itself", x.piece(0, 9), 15);
        refused(x, "piece", x.piece(0, 10), 1);
        refused(x, "piece", x.piece(0, -1), 1);
        refused(x, "piece", x.piece(2, 0), 1);
        about("16");
        due("with a piece of none", x.clear(0), 0);
        due("ab, a", x.clear(1), 1);
        refused(x, "clear", x.clear(2), 1);
        about("17");
        due("with a piece of none", x.unclear(0), 0);
        due("clear", x.unclear(1), -2);
        due("trouble", x.trouble(), 0);
        refused(x, "unclear", x.unclear(2), 1);
        x.aside(0, 3, 1);
        due("b twice", x.unclear(0), 1);
        due("a rule aside has no piece", x.pieces(0), 9);
        x.aside(0, 0, 1);
        due("a comes back as itself", x.piece(0, 2), 8);
        due("a twice", x.unclear(0), 1);
        CarriedLetters far = told("script letters 4;pass;rule a to ab;rule b to abb;rule c to bba;rule d to c");
        due("ab bb a c? abb a is no row: none twice", far.unclear(0), -2);
        // abb ab and ab bab; abba bab, abb ab ab and ab bab ab.
        CarriedLetters deep = told("script letters 4;pass;rule a to abba;rule b to ab;rule c to bab;rule d to abb");
        due("abbabab in three ways", deep.readings(0, word("abbabab")), 3);
        due("the fewest", deep.unclear(0), 5);
        // ab cdab .. and abc dabc ..: each time c is left over, and never more or less.
        CarriedLetters chain = told("script letters 4;pass;rule a to abc;rule b to ab;rule c to cdab;rule d to dabc");
        due("a chain without an end", chain.unclear(0), -2);
        CarriedLetters longer = told("script letters 4;pass;rule a to abc;rule b to ab;rule c to cda;rule d to d;rule e to bc");
        // abc d abc .. and ab cda bc ..
        due("abcdabc in two ways", longer.readings(0, word("abcdabc")), 2);
        due("no fewer", longer.unclear(0), 7);
        about("18");
        due("one letter", x.readings(0, word("b")), 1);
        CarriedLetters many = told("script letters 2;pass;rule ab to a;rule ab to a;rule ab to a;rule ab to a;rule ab to a;rule ab to a;rule ab to a;rule ab to a");
        due("nine to the eighth", many.readings(0, word("aaaaaaaa")), 43046721);
        due("all of them", many.readings(0, word("hahbcdef")), 9);
        CarriedLetters none = told("script letters 2;pass;rule a to none;rule b to ba");
        due("no pieces of no letters", none.readings(0, word("ba")), 1);
        due("no reading", none.readings(0, word("a")), 0);
        refused(none, "pass first", none.readings(1, 0), 1);
        refused(none, "no word", none.readings(0, 0), 2);
        refused(none, "no word", none.readings(0, word("abi")), 2);
        refused(none, "a gap", none.readings(0, 0x6100_61L), 2);
        refused(none, "below a", none.readings(0, 96), 2);
        refused(none, "negative", none.readings(0, -1), 2);
        about("19");
        due("the only one", none.reading(0, word("bac"), 0), 1);
        due("behind it", none.reading(0, word("bac"), 1), 10);
        refused(none, "i", none.reading(0, word("bac"), 2), 1);
        refused(none, "i", none.reading(0, word("bac"), -1), 1);
        refused(none, "no reading", none.reading(0, word("ab"), 0), 1);
        refused(none, "2 ahead of i", none.reading(0, 0, -1), 2);
        refused(none, "pass first", none.reading(-1, 0, 0), 1);
        CarriedLetters least = told("script letters 2;pass;rule aa to abc;rule ab to ab;rule bb to cd");
        due("the least first, if it goes on", least.reading(0, word("abcd"), 0), 0);
        due("d", least.reading(0, word("abcd"), 1), 11);
        due("readings", least.readings(0, word("abcd")), 5);
        due("a dead end is not taken", told("script letters 4;pass;rule a to ab;rule b to a;rule c to bb;rule d to c").reading(0, word("abb"), 0), 1);
        about("20");
        due("not clear", x.sure(), 0);
        due("again", told("script letters 2;pass again;rule a to ab;rule b to a").sure(), 0);
        due("clear", told("script letters 2;pass;rule a to ab;rule b to a").sure(), 1);
        due("all passes", told("script letters 2;pass;rule a to ab;rule b to a;pass;rule a to b").sure(), 0);
        due("a pass without rules", told("script letters 2;pass;rule a to ab;rule b to a;pass").sure(), 1);
        due("again without rules", told("script letters 2;pass;rule a to ab;rule b to a;pass again").sure(), 0);
    }

    private static void carrying() {
        about("21");
        CarriedLetters x = told(FIRST);
        carries(x, "ab", "c");
        carries(x, "aa", "ab");
        carries(x, "acab", "ac");
        carries(x, "h", "h");
        carries(x, "abcdefgh", "ccdefgh");
        carries(told("script letters 2;pass;rule a to none"), "aa", "");
        carries(told("script letters 2;pass;rule a to none;pass again;rule b to c"), "aab", "c");
        carries(told("script letters 2;pass;rule aa to b;rule a to c;rule aaa to d"), "aaaaa", "db");
        carries(told("script letters 2;pass;rule ab to c;rule after a b to d;rule after b b to e"), "abbb", "cee");
        carries(told("script letters 2;pass;rule aa before b to c;rule a before edge to d;rule aa to e"), "aaaab", "ecb");
        carries(told("script letters 2;pass;rule after edge a before edge to h;rule a before edge to c;rule after edge a to d;rule a to e"), "aaa", "dec");
        carries(told("script letters 2;pass;rule after edge a before edge to h;rule a before edge to c;rule after edge a to d;rule a to e"), "a", "h");
        carries(told("script letters 2;kind kk of bc;pass;rule after kk a before kk to d"), "abacaba", "abdcdba");
        carries(told("script letters 2;pass;rule a to b;rule a to c"), "a", "b");
        // What stands ahead is told by what came into the round, not by what has come out of it.
        carries(told("script letters 2;pass;rule a to b;rule after a b to c"), "ab", "bc");
        carries(told("script letters 2;pass;rule a to b;rule after b b to c"), "ab", "bb");
        carries(told(SWAP), "ab", "!7");
        carries(told(GROW), "ab", "!6");
        refused(x, "0", x.carry(0), 2);
        refused(x, "i", x.carry(word("i")), 2);
        refused(x, "A", x.carry(65), 2);
        refused(x, "blank ahead", x.carry(word(" a")), 2);
        refused(x, "nothing behind", x.carry(word("a") << 8), 2);
        refused(x, "negative", x.carry(Long.MIN_VALUE), 2);
        due("eight letters", x.carry(word("hhhhhhhh")), 8);
        CarriedLetters edge = told("script letters 2;pass;rule a to aaaa;rule g to hb;pass;rule a to aa;rule h to aaaa;pass;rule a to none");
        due("60 letters", edge.carry(word("aaaaaaah")) + edge.behind(1), 60);
        refused(edge, "61 letters on the way", edge.carry(word("aaaaaaag")), 6);
        carries(told("script letters 2;pass;rule a to aaaa;pass;rule a to aa"), "aaaaaaaa", "!6");
        carries(told("script letters 2;pass;rule a to aaaa;pass;rule aaa to aaaa"), "aaaaaaaa", "a".repeat(42));
        // Nineteen rounds that change something and one more that doesn't: it ends.
        CarriedLetters again = told("script letters 2;pass;rule h to aaaa;pass;rule b to aaa;pass again;rule after edge a to none");
        due("19 letters less", again.carry(word("hhhhb")), 0);
        due("20 rounds", again.rounds(2), 20);
        refused(again, "20 letters less", again.carry(word("hhhhh")), 7);

        about("22");
        x.carry(word("aa"));
        due("first", x.out(0), 0);
        due("second", x.out(1), 1);
        refused(x, "k", x.out(2), 1);
        refused(x, "k", x.out(-1), 1);
        x.apart(word("h"), word("h"));
        x.turned(word("h"));
        x.doubled(2);
        x.aside(0, 1, 1);
        due("other calls leave it", x.out(1), 1);
        due("also putting aside", x.served(0, 1), 1);
        x.undo();
        x.carry(0);
        refused(x, "of one refused: nothing", x.out(0), 1);
        refused(x, "behind", x.behind(0), 1);
        refused(x, "outOf", x.outOf(0, 0), 1);
        refused(x, "rounds", x.rounds(0), 1);
        refused(x, "served", x.served(0, 0), 1);
        due("size", x.size(2), 0);

        x.carry(word("bbbb"));
        about("23");
        due("behind(0)", x.behind(0), 4);
        due("behind(1)", x.behind(1), 1);
        refused(x, "behind(2)", x.behind(2), 1);
        refused(x, "behind(-1)", x.behind(-1), 1);
        about("24");
        due("outOf(0, 3)", x.outOf(0, 3), 1);
        due("outOf(1, 0)", x.outOf(1, 0), 1);
        refused(x, "outOf(1, 1)", x.outOf(1, 1), 1);
        refused(x, "outOf(0, -1)", x.outOf(0, -1), 1);
        refused(x, "outOf(2, 0)", x.outOf(2, 0), 1);
        about("25");
        due("one round", x.rounds(0), 1);
        due("rounds(1)", x.rounds(1), 3);
        refused(x, "rounds(2)", x.rounds(2), 1);
        x.carry(word("a"));
        due("one that changes nothing", x.rounds(1), 1);
        about("26");
        x.carry(word("bbbb"));
        due("served(1, 0)", x.served(1, 0), 3);
        due("served(0, 0)", x.served(0, 0), 0);
        refused(x, "served(1, 1)", x.served(1, 1), 1);
        refused(x, "served(2, 0)", x.served(2, 0), 1);
        x.carry(word("abababa"));
        due("three times", x.served(0, 0), 3);
        due("at the edge", x.served(0, 1), 1);
        CarriedLetters same = told("script letters 2;pass again;rule a to a");
        same.carry(word("aba"));
        due("a rule that changes nothing", same.served(0, 0), 2);
    }

    private static void apartAndTurned() {
        about("27");
        CarriedLetters x = told("script letters 2;pass;rule h to none;rule g to abcd");
        due("alike", x.apart(word("ah"), word("a")), 0);
        due("a letter more", x.apart(word("a"), word("ab")), 1);
        due("all less", x.apart(word("abcd"), word("h")), 4);
        due("all more", x.apart(word("hh"), word("abcdefab")), 8);
        due("another", x.apart(word("abc"), word("adc")), 1);
        due("shifted", x.apart(word("abcdef"), word("bcdefa")), 2);
        due("what comes out", x.apart(word("g"), word("abd")), 1);
        due("trouble", x.trouble(), 0);
        CarriedLetters most = told("script letters 2;pass;rule a to aaaa;rule b to bbbb;pass;rule a to aa;rule b to cc;rule h to dddd");
        due("60 letters and 60", most.apart(word("aaaaaaah"), word("bbbbbbbh")), 56);
        due("60 letters and one", most.apart(word("aaaaaaah"), word("e")), 60);
        due("one and 60 letters", most.apart(word("e"), word("aaaaaaah")), 60);
        refused(x, "first", x.apart(0, word("a")), 2);
        refused(x, "second", x.apart(word("a"), 0), 2);
        CarriedLetters y = told("script letters 4;pass again;rule a to b;rule b to a;rule c to cc");
        refused(y, "first endless", y.apart(word("a"), word("c")), 7);
        refused(y, "first too long", y.apart(word("c"), word("a")), 6);
        refused(y, "second", y.apart(word("d"), word("a")), 7);
        refused(y, "second", y.apart(word("d"), word("c")), 6);
        refused(y, "2 ahead of 7", y.apart(word("a"), 0), 2);

        about("28");
        CarriedLetters t = told("script letters 2;pass;rule a to b;rule b to none;pass;rule ab to abcd;rule after e c to a");
        // Turned: abcd to ab, then b to a; those to none are aside.
        due("abcd", t.turned(word("abcd")), 2);
        due("abcd", t.turnedOut(word("abcd"), 0), 0);
        due("abcd", t.turnedOut(word("abcd"), 1), 0);
        due("sides as they are", t.turnedOut(word("ea"), 1), 2);
        due("and no other", t.turnedOut(word("ca"), 1), 0);
        due("the longest", t.turned(word("eabcdab")), 5);
        refused(t, "no word", t.turned(0), 2);
        CarriedLetters first = told("script letters 2;pass;rule a to c;rule b to c;rule ab to cc");
        due("of like ones the first", first.turnedOut(word("c"), 0), 0);
        due("longest", first.turnedOut(word("cc"), 1), 1);
        first.aside(0, 0, 1);
        due("those aside are aside", first.turnedOut(word("c"), 0), 1);
        CarriedLetters grow = told("script letters 2;pass again;rule aa to a");
        refused(grow, "too long", grow.turned(word("a")), 6);
        refused(grow, "too long", grow.turnedOut(word("a"), -1), 6);
        CarriedLetters swap = told(SWAP);
        refused(swap, "endless", swap.turned(word("a")), 7);
        refused(swap, "endless", swap.turnedOut(word("b"), 0), 7);
        about("29");
        refused(t, "k", t.turnedOut(word("abcd"), 2), 1);
        refused(t, "k", t.turnedOut(word("abcd"), -1), 1);
        refused(t, "2 ahead of k", t.turnedOut(word("i"), -1), 2);
    }

    private static void wordsUpTo() {
        about("30");
        CarriedLetters x = told(FIRST);
        due("words(1)", x.words(1), 3);
        due("words(5)", x.words(5), 363);
        due("two letters", told(SWAP).words(5), 62);
        due("four letters", told("script letters 4;pass;rule a to b").words(5), 1364);
        refused(x, "0", x.words(0), 2);
        refused(x, "6", x.words(6), 2);
        about("31");
        due("up to 1", x.reversible(1), 0);
        due("those that fail are not alike", told(SWAP).reversible(5), 1);
        due("all unlike", told("script letters 4;pass;rule a to ab;rule b to a").reversible(5), 1);
        due("all to nothing", told("script letters 2;pass;rule a to none;rule b to none").reversible(1), 0);
        refused(x, "0", x.reversible(0), 2);
        about("32");
        due("first doubled", x.failing(2, 0), word("b"));
        due("alike to it", x.failing(2, 1), word("a"));
        CarriedLetters y = told("script letters 3;pass;rule a to a;rule b to ab;rule c to ba");
        due("aba", y.failing(5, 0), word("ba"));
        due("aba", y.failing(5, 1), word("ac"));
        refused(y, "none up to 1", y.failing(1, 0), 5);
        refused(y, "what ahead of n", y.failing(0, 2), 1);
        refused(y, "what", y.failing(1, -1), 1);
        refused(y, "n", y.failing(6, 1), 2);
        about("33");
        due("up to 1", x.doubled(1), 1);
        due("up to 2", x.doubled(2), 6);
        due("up to 1 again", x.doubled(1), 1);
        due("all but one", told("script letters 4;pass;rule a to none;rule b to none;rule c to none;rule d to none").doubled(5), 1363);
        refused(x, "n", x.doubled(-1), 2);
        about("34");
        CarriedLetters f = told("script letters 3;pass again;rule a to b;rule b to a;rule c to cc");
        due("too long: with a c", f.fails(1, 0), 1);
        due("endless", f.fails(1, 1), 2);
        due("too long: with a c", f.fails(2, 0), 1 + 5);
        due("endless", f.fails(2, 1), 2 + 4);
        refused(f, "what ahead of n", f.fails(0, 2), 1);
        refused(f, "n", f.fails(0, 0), 2);
        about("35");
        due("too long", f.firstFail(3, 0), word("c"));
        due("endless", f.firstFail(3, 1), word("a"));
        refused(x, "none", x.firstFail(2, 0), 5);
        refused(x, "what ahead of n", x.firstFail(7, -1), 1);
        refused(x, "n", x.firstFail(7, 1), 2);
        CarriedLetters late = told("script letters 2;pass again;rule ba to ab;pass again;rule abb to abbb");
        due("a longer one", late.firstFail(5, 1), word("abb"));
        CarriedLetters behind = told("script letters 2;pass;rule after edge aa before edge to h;pass again;rule h to hh");
        due("aa", behind.firstFail(2, 0), word("aa"));
        refused(behind, "what is known of more letters is not told", behind.firstFail(1, 0), 5);
        due("nor counted", behind.fails(1, 0), 0);
        about("36");
        due("b", x.sources(2, word("b")), 4);
        due("none", x.sources(5, word("hh")), 0);
        due("trouble", x.trouble(), 0);
        refused(x, "n", x.sources(6, word("b")), 2);
        refused(x, "word", x.sources(2, 0), 2);
        about("37");
        due("first", x.source(2, word("b"), 0), word("a"));
        due("second", x.source(2, word("b"), 1), word("b"));
        due("third", x.source(2, word("b"), 2), word("ba"));
        refused(x, "i", x.source(2, word("b"), 4), 1);
        refused(x, "i", x.source(2, word("b"), -1), 1);
        refused(x, "2 ahead of i", x.source(2, 0, -1), 2);
        CarriedLetters wide = told("script letters 2;pass;rule aa to h");
        due("aa", wide.source(2, word("h"), 0), word("aa"));
        refused(wide, "known, but longer than n", wide.source(1, word("h"), 0), 1);
        due("nor counted", wide.sources(1, word("h")), 0);
        due("eight letters", told("script letters 2;pass;rule a to abcd").source(2, word("abcdabcd"), 0), word("aa"));
        about("38");
        due("longest", x.longest(2), 2);
        due("grown", told("script letters 2;pass;rule a to abcd;pass;rule a to abcd;rule b to ggg").longest(5), 45);
        due("none left", told("script letters 2;pass;rule a to none;rule b to none").longest(3), 0);
        CarriedLetters all = told("script letters 2;pass again;rule a to b;rule b to a");
        due("all fail", all.longest(3), -2);
        due("trouble", all.trouble(), 0);
        refused(x, "n", x.longest(0), 2);
        about("39");
        due("the first", x.longestOf(2), word("aa"));
        due("of none", told("script letters 2;pass;rule a to none;rule b to none").longestOf(3), word("a"));
        refused(all, "all fail", all.longestOf(3), 5);
        refused(x, "n", x.longestOf(6), 2);
    }

    private static void rulesAndWords() {
        about("40");
        CarriedLetters x = told(FIRST);
        due("idle(0, 1)", x.idle(0, 1), 5);
        due("idle(1, 1)", x.idle(1, 1), 1);
        due("idle(0, 2)", x.idle(0, 2), 0);
        x.aside(0, 1, 1);
        due("put aside", x.idle(0, 2), 2);
        refused(x, "pass ahead of n", x.idle(2, 0), 1);
        refused(x, "pass", x.idle(-1, 1), 1);
        refused(x, "n", x.idle(0, 6), 2);
        CarriedLetters f = told("script letters 2;pass;rule a to a;rule b to b;pass again;rule b to bb");
        due("what fails doesn't count", f.idle(0, 3), 2);
        due("in no pass", f.idle(1, 3), 1);
        due("a pass without rules", told("script letters 2;pass;rule a to b;pass").idle(1, 1), 0);

        about("41");
        CarriedLetters t = told("script letters 2;pass;rule a to ba;rule b to a");
        due("all up to 1", t.comeBack(1), 2);
        // bb to aa; turned: aa to bb. ab to baa, turned ba a: ab. ba to aba, turned a ba: ba. All come back.
        due("all up to 2", t.comeBack(2), 6);
        CarriedLetters two = told("script letters 2;pass;rule a to c;rule b to c");
        due("half", two.comeBack(1), 1);
        due("aa of four", two.comeBack(2), 2);
        due("none without letters", told("script letters 2;pass;rule a to none").comeBack(1), 1);
        due("those that fail don't", told(SWAP).comeBack(2), 0);
        due("turned it fails", told("script letters 2;pass again;rule aa to a").comeBack(1), 1);
        refused(t, "n", t.comeBack(0), 2);
        about("42");
        refused(t, "all do", t.lost(2), 5);
        due("b", two.lost(2), word("b"));
        CarriedLetters swap = told(SWAP);
        refused(swap, "all fail", swap.lost(2), 5);
        due("by length", told("script letters 2;pass;rule ba to ab").lost(3), word("ab"));
        refused(t, "n", t.lost(6), 2);

        about("43");
        CarriedLetters w = told("script letters 3;pass;rule a to h;rule b to h;pass;rule c to h;rule g to h");
        due("each makes them fewer: the first", w.worst(1), 0);
        due("without b none is", told("script letters 3;pass;rule c to d;rule b to a").worst(1), 1);
        due("in the second pass", told("script letters 2;pass;rule c to d;pass;rule c to d;rule a to b").worst(1), 11);
        due("none is doubled", told("script letters 2;pass;rule a to c").worst(3), -2);
        CarriedLetters none = told("script letters 2;pass;rule a to c;rule ab to b;pass;rule b to c;rule a to c");
        none.aside(0, 1, 1);
        due("doubled", none.doubled(1), 1);
        due("without 0 of 0 rule 1 of 1 serves; without b to c none is doubled", none.worst(1), 10);
        due("it is as it was", none.doubled(1), 1);
        due("nothing is put aside for it", none.rule(1, 0, 4), 0);
        none.aside(1, 0, 1);
        due("one that is aside is not told", none.worst(1), -2);
        refused(none, "n", none.worst(0), 2);
    }

    private static void acts() {
        about("44");
        CarriedLetters x = told(FIRST);
        due("aside", x.aside(0, 1, 1), 1);
        due("of all", x.aside(1, 0, 1), 2);
        refused(x, "already", x.aside(0, 1, 1), 5);
        refused(x, "already", x.aside(0, 0, 0), 5);
        refused(x, "is", x.aside(0, 0, 2), 2);
        refused(x, "is", x.aside(0, 0, -1), 2);
        refused(x, "1 ahead of 2", x.aside(0, 3, 2), 1);
        refused(x, "pass", x.aside(2, 0, 1), 1);
        refused(x, "rule", x.aside(0, -1, 1), 1);
        carries(x, "aabb", "acb");
        carries(x, "a", "a");
        due("serves again", x.aside(0, 1, 0), 1);
        carries(x, "a", "b");
        due("words are looked through anew", x.doubled(1), 1);
        x.aside(0, 1, 1);
        due("words are looked through anew", x.doubled(1), 0);
        x.undo();
        due("words are looked through anew", x.doubled(1), 1);

        about("45");
        due("two are left", x.size(1), 3);
        due("undo", x.undo() ? 1 : 0, 1);
        due("trouble", x.trouble(), 0);
        due("it is aside again", x.rule(0, 1, 4), 1);
        due("undo", x.undo() ? 1 : 0, 1);
        due("the pass serves", x.rule(1, 0, 4), 0);
        due("undo", x.undo() ? 1 : 0, 1);
        due("the first", x.rule(0, 1, 4), 0);
        due("undo", x.undo() ? 1 : 0, 0);
        due("trouble", x.trouble(), 1);
        for (int k = 0; k < 7; k++) {
            x.aside(0, 0, 1);
            x.aside(0, 0, 0);
        }
        due("twelve are kept", x.size(1), 12);
        x.aside(0, 2, 1);
        due("twelve are kept", x.size(1), 12);
        due("undo", x.undo() ? 1 : 0, 1);
        due("the latest", x.rule(0, 2, 4), 0);
        int undone = 0;
        while (undone < 20 && x.undo()) {
            undone++;
        }
        due("eleven more", undone, 11);
        due("as it was ahead of them", x.rule(0, 0, 4), 1);
        x.aside(0, 1, 1);
        due("a refused act is none", x.aside(0, 1, 1) + x.size(1), 0);

        StringBuilder sixteen = new StringBuilder("script letters 2");
        for (int k = 0; k < 16; k++) {
            sixteen.append(k % 8 == 0 ? ";pass" : "").append(";rule a to b");
        }
        CarriedLetters row = told(sixteen.toString());
        for (int k = 0; k < 14; k++) {
            due("aside", row.aside(k / 8, k % 8, 1), k + 1);
        }
        for (int k = 13; k >= 2; k--) {
            due("undo", row.undo() ? 1 : 0, 1);
            due("the latest first", row.rule(k / 8, k % 8, 4), 0);
        }
        due("undo", row.undo() ? 1 : 0, 0);
        due("the oldest are kept no more", row.rule(0, 0, 4) + row.rule(0, 1, 4), 2);

        about("46");
        CarriedLetters e = told("script letters 2;pass;pass;rule a to b;rule b to a;pass again");
        due("first", emptyOf(e, 0), 0);
        due("second", emptyOf(e, 1), 2);
        due("no third", emptyOf(e, 2), THROWN);
        due("none below", emptyOf(e, -1), THROWN);
        e.aside(1, 0, 1);
        due("one serves yet", emptyOf(e, 1), 2);
        e.aside(1, 1, 1);
        due("none serves", emptyOf(e, 1), 1);
        due("third", emptyOf(e, 2), 2);
        e.kind(0);
        emptyOf(e, 9);
        emptyOf(e, 0);
        due("trouble is left", e.trouble(), 1);

        about("47");
        feed(e, "a");
        due("bytes", e.size(0), 20);
        due("acts", e.size(1), 2);
        due("letters", e.size(2), 0);
        e.carry(word("abc"));
        due("letters", e.size(2), 3);
        due("another", e.size(3), -1);
        due("another", e.size(-1), -1);
        due("trouble is left", e.trouble(), 0);

        about("48");
        e.kind(0);
        due("no such", e.trouble(), 1);
        e.carry(0);
        due("a word", e.trouble(), 2);
        tell(e, "x");
        due("a fault", e.trouble(), 4);
        due("asked again", e.trouble(), 4);
        e.aside(0, 0, 0);
        e.lost(1);
        due("not so", e.trouble(), 5);
        tell(e, GROW);
        e.carry(word("a"));
        due("too long", e.trouble(), 6);
        tell(e, SWAP);
        due("it wasn't", e.trouble(), 0);
        e.carry(word("a"));
        due("endless", e.trouble(), 7);
        e.size(9);
        e.fault();
        e.where();
        due("those without a number leave it", e.trouble(), 7);
        e.pass(0, 0);
        due("it wasn't", e.trouble(), 0);
    }

    private static void readme() {
        about("README");
        CarriedLetters x = new CarriedLetters();
        due("feed", x.feed(0x73637269, 0x7074206c, 0x65747465, 0x72732032, 0x3b706173), 20);
        due("feed", x.feed(0x733b7275, 0x6c652061, 0x20746f20, 0x62612020, 0x20202020), 40);
        due("script", x.script(34), 1);
        due("carry", x.carry(0x6162), 3);
        due("out", x.out(0), 1);
        due("reversible", x.reversible(5), 1);
        due("trouble", x.trouble(), 0);
        CarriedLetters lines = told("script letters 3;                           "
                + "kind vow of ae;   pass;   rule ab to c;   rule after vow b before edge to none;   pass again;   rule bb to b");
        due("passes", lines.about(2), 2);
        due("rules", lines.about(3), 3);
        carries(lines, "eb", "e");
        carries(lines, "abcbbbb", "ccb");
    }

    public static void main(String[] args) {
        newObject();
        feeding();
        telling();
        faults();
        script();
        machine();
        pieces();
        carrying();
        apartAndTurned();
        wordsUpTo();
        rulesAndWords();
        acts();
        readme();
        end();
    }
}
