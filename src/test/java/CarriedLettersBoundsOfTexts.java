/** The boundary cases of the document's head I, a sentence at a time: what a text may be, what it may just not be, and where it is told. */
public final class CarriedLettersBoundsOfTexts extends Asking {
    /** 17, 22 and 27 bytes: what comes behind them stands at these places. */
    private static final String HEAD = "script letters 2;";
    private static final String PASS = HEAD + "pass;";
    private static final String RULE = PASS + "rule ";
    private static final String WHOLE = RULE + "a to b";

    private static final String[] KEPT = {"script", "kind", "pass", "rule", "letters", "of", "again", "after", "before", "to", "none", "edge"};

    private static String blanks(int n) {
        return " ".repeat(n);
    }

    // ---- letters, the tape, tokens

    private static void letters() {
        about("LETTERS: a .. h");
        for (char c = 'a'; c <= 'h'; c++) {
            CarriedLetters x = told(HEAD + "kind kk of " + c + ";pass;rule after " + c + " " + c + " before " + c + " to " + c);
            due("kind " + c, x.kind(0), 1 << (c - 'a'));
            due("match " + c, x.letter(0, 0, 0, 0), c - 'a');
            due("outcome " + c, x.letter(0, 0, 1, 0), c - 'a');
            due("ahead " + c, x.rule(0, 0, 2), 1 << (c - 'a'));
            due("behind " + c, x.rule(0, 0, 3), 1 << (c - 'a'));
        }
        for (String c : new String[] {"`", "i", "z", "A", "H"}) {
            faulty(HEAD + "kind kk of " + c, 1, 28);
            faulty(RULE + c + " to a", 1, 27);
            faulty(RULE + "a to " + c, 1, 32);
            faulty(RULE + "after " + c + " a to a", 1, 33);
            faulty(RULE + "a before " + c + " to a", 1, 36);
        }
        faulty(RULE + "ai to a", 1, 27);
        faulty(RULE + "a to abci", 1, 32);
        faulty(HEAD + "kind kk of abcdefi", 1, 28);
    }

    private static void tapeOf900() {
        about("THE TAPE has 900 bytes");
        String text = RULE + "a to" + blanks(868) + "b";
        due("bytes", text.length(), 900);
        CarriedLetters x = new CarriedLetters();
        feed(x, text);
        due("full", x.size(0), 900);
        refused(x, "a byte more than there is", x.script(901), 2);
        due("it stays", x.size(0), 900);
        due("all of them", x.script(900), 1);
        due("the last byte counts", x.letter(0, 0, 1, 0), 1);
        feed(x, text);
        refused(x, "one byte less", x.script(899), 4);
        due("its end", x.where(), 899);
        faulty(text.substring(0, 899) + "?", 1, 899);
        faulty("a".repeat(900), 1, 0);
        faulty(blanks(900), 1, 900);
        faulty(blanks(899) + "a", 1, 899);
        feed(x, WHOLE + "x".repeat(900 - WHOLE.length()));
        due("what is behind the first n is not looked at", x.script(WHOLE.length()), 1);
        due("and is gone, too", x.size(0), 0);
    }

    private static void blanksPartTokens() {
        about("blanks, 32, part TOKENS and mean nothing else");
        told(blanks(7) + "script" + blanks(3) + "letters" + blanks(9) + "2" + blanks(2) + ";" + blanks(5) + "pass ;rule a to b" + blanks(30));
        told("script letters2;pass;rule a to b");
        faulty("script letters 2;pass;rulea to b", 1, 22);
        faulty("scriptletters 2", 1, 0);
        faulty("scr ipt letters 2", 1, 0);
        faulty("script let ters 2", 1, 7);
        faulty(PASS + "ru le a to b", 1, 22);
        faulty(HEAD + "pass ag ain", 1, 22);
        faulty(RULE + "a b to c", 1, 29);
        faulty(RULE + "a to b c", 1, 34);
        faulty(HEAD + "kind kk of a b", 1, 30);
        due("blanks at the end are looked over", told(WHOLE + blanks(5)).about(3), 1);
    }

    private static void everyByte() {
        about("FORM: the first byte that begins no TOKEN");
        for (int sign = 0; sign < 256; sign++) {
            String text = WHOLE + " " + (char) sign;
            if (sign == ' ') {
                told(text);
            } else if (sign == ';') {
                faulty(text, 1, 35);
            } else {
                faulty(text, 1, 34);
            }
            boolean small = sign >= 'a' && sign <= 'h';
            if (small || sign == ' ') {
                due("a letter more", told(WHOLE + (char) sign).rule(0, 0, 1), small ? 2 : 1);
            } else {
                // Other small letters stand together with the b: the whole NAME is not of LETTERS.
                faulty(WHOLE + (char) sign, 1, sign == ';' ? 34 : sign > 'h' && sign <= 'z' ? 32 : 33);
            }
        }
        faulty(PASS + "\nrule a to b", 1, 22);
        faulty((char) 255 + WHOLE, 1, 0);
    }

    private static void names() {
        about("NAMES of 1 to 7 small letters that stand together");
        due("seven letters", told(HEAD + "kind zyxwvut of a;pass;rule after zyxwvut b to c").rule(0, 0, 2), 1);
        faulty(HEAD + "kind zyxwvuts of a", 1, 22);
        faulty(PASS + "rule after zyxwvuts b to c", 1, 33);
        faulty(RULE + "b before zyxwvuts to c", 1, 36);
        faulty("scriptss letters 2", 1, 0);
        faulty("script lettersx 2", 1, 7);
        faulty(HEAD + "kind aaaaaaaa of a;kind aaaaaaaa of a", 1, 22);
        faulty(RULE + "aaaaaaaaa to b", 1, 27);
        faulty(RULE + "a to aaaaaaaaa", 1, 32);
        CarriedLetters x = told(HEAD + "kind aaaaaaa of a;kind aaaaaab of b;kind baaaaaa of c;kind aaaaaa of d;pass;"
                + "rule after aaaaaaa a to a;rule after aaaaaab a to a;rule after baaaaaa a to a;rule after aaaaaa a to a");
        for (int i = 0; i < 4; i++) {
            due("told apart by their last, first letter and length", x.rule(0, i, 2), 1 << i);
        }
    }

    private static void wholes() {
        about("WHOLES of one digit");
        faulty("script letters 12;pass", 1, 15);
        faulty("script letters 22;pass", 1, 15);
        faulty("script letters 02;pass", 1, 15);
        faulty("script letters 2222222222222222;pass", 1, 15);
        faulty("script letters 2 2;pass", 1, 17);
        faulty("script letters /", 1, 15);
        faulty("script letters :", 1, 15);
        faulty("script letters -2", 1, 15);
        faulty("script letters two", 1, 15);
        faulty("script letters ;", 1, 15);
    }

    /** A NAME is known by all its letters: one with its first or its last letter changed is another one. */
    private static void namesOfTheText() {
        about("FORM: TOKEN with which no SCRIPT goes on");
        String text = HEAD + "kind kk of ab;pass again;rule after kk ab before edge to none";
        told(text);
        for (String name : new String[] {"script", "letters", "kind", "of", "pass", "again", "rule", "before", "to"}) {
            int at = text.indexOf(name);
            int last = at + name.length() - 1;
            faulty(text.substring(0, at) + "z" + text.substring(at + 1), 1, at);
            faulty(text.substring(0, last) + "z" + text.substring(last + 1), 1, at);
            faulty(text.substring(0, last) + text.substring(last + 1), 1, at);
            // Without again a PASS is one all the same.
            if (!name.equals("again")) {
                faulty(text.substring(0, at) + text.substring(last + 1), 1, at + 1);
            }
        }
        faulty(HEAD + "kind kk of ab;pass;rule zfter kk ab to b", 1, 41);
        faulty(HEAD + "kind kk of ab;pass;rule after zdge ab to b", 4, 47);
        faulty(RULE + "a to zone", 1, 32);
        faulty(RULE + "a to nonz", 1, 32);
    }

    private static void marks() {
        about("LINE {; LINE}");
        faulty("", 1, 0);
        CarriedLetters x = new CarriedLetters();
        feed(x, "  " + WHOLE);
        refused(x, "no byte of some", x.script(0), 4);
        due("its end is 0, whatever stands behind it", x.where(), 0);
        faulty(";", 1, 0);
        faulty(";" + WHOLE, 1, 0);
        faulty("script letters 2;;pass;rule a to b", 1, 17);
        faulty(WHOLE + ";", 1, 34);
        faulty(WHOLE + "; ", 1, 35);
        faulty(WHOLE + ";;", 1, 34);
        faulty("script letters 2 pass;rule a to b", 1, 17);
        faulty(HEAD + "pass rule a to b", 1, 22);
        faulty(WHOLE + " rule b to a", 1, 34);
        faulty(HEAD + "kind kk of a pass", 1, 30);
    }

    // ---- lines

    private static void sourceOf2To4() {
        about("script letters WHOLE (SOURCE: the first 2 .. 4 LETTERS); 2 a WHOLE out of bounds; at it");
        for (int n = 0; n <= 9; n++) {
            String text = "script letters " + n + ";pass;rule a to b";
            if (n >= 2 && n <= 4) {
                due("source", told(text).about(0), n);
                due("words of one letter", told(text).words(1), n);
            } else {
                faulty(text, 2, 15);
                faulty("script  letters   " + n, 2, 18);
            }
        }
    }

    private static void aheadOfAllOthers() {
        about("script, ahead of all others; 6 LACKS: any LINE ahead of the script, at its first NAME");
        for (String line : new String[] {"kind kk of a", "pass", "pass again", "rule a to b"}) {
            faulty(line, 6, 0);
            faulty(line + ";script letters 2;pass;rule a to b", 6, 0);
            faulty("   " + line, 6, 3);
            // It is met at the first NAME, whatever is wrong behind it.
            faulty(line.substring(0, 4), 6, 0);
            faulty(line.substring(0, 4) + "?", 6, 0);
        }
        faulty("letters 2", 1, 0);
        faulty("again", 1, 0);
        faulty("2", 1, 0);
    }

    private static void kindNames() {
        about("a KIND; its NAME has 2 letters at least");
        faulty(HEAD + "kind k of a", 1, 22);
        faulty(HEAD + "kind of a", 1, 22);
        due("two", told(HEAD + "kind kk of a;pass;rule a to b").about(1), 1);
        due("two LETTERS are a NAME, too", told(HEAD + "kind ab of h;pass;rule after ab a to b").rule(0, 0, 2), 128);
        due("also where LETTERS are", told(HEAD + "kind ab of h;pass;rule after ab ab before ab to ab").letter(0, 0, 1, 1), 1);
    }

    private static void kindLetters() {
        about("LETTERS unlike, standing together, 1 to 7 of them");
        faulty(HEAD + "kind kk of", 1, 27);
        faulty(HEAD + "kind kk of ;pass", 1, 28);
        due("one", told(HEAD + "kind kk of h;pass;rule a to b").kind(0), 128);
        due("seven", told(HEAD + "kind kk of hgfedcb;pass;rule a to b").kind(0), 254);
        due("seven others", told(HEAD + "kind kk of abcdefg;pass;rule a to b").kind(0), 127);
        faulty(HEAD + "kind kk of abcdefgh", 1, 28);
        faulty(HEAD + "kind kk of aa", 3, 28);
        faulty(HEAD + "kind kk of abcdefa", 3, 28);
        faulty(HEAD + "kind kk of abcdeff", 3, 28);
        faulty(HEAD + "kind kk of none", 1, 28);
    }

    private static void fourKinds() {
        about("kind: up to 4; 5 MANY: a LINE more of its sort, at its first NAME");
        String four = HEAD + "kind ka of a;kind kb of b;kind kc of c;kind kd of d";
        due("four", told(four + ";pass;rule a to b").about(1), 4);
        due("none", told(WHOLE).about(1), 0);
        faulty(four + ";kind ke of e;pass;rule a to b", 5, four.length() + 1);
        faulty(four + ";kind", 5, four.length() + 1);
        faulty(four + "; kind ka of aa", 5, four.length() + 2);
        faulty(four + ";pass;rule a to b;kind ke of e", 5, four.length() + 18);
        String split = HEAD + "kind ka of a;pass;kind kb of b;rule a to b;kind kc of c;rule a to b;kind kd of d";
        due("they may stand anywhere behind the script", told(split).kind(3), 8);
        faulty(split + ";kind ke of e", 5, split.length() + 1);
    }

    private static void threePasses() {
        about("pass: numbered from 0; up to 3");
        due("one", told(WHOLE).about(2), 1);
        String three = HEAD + "pass;rule a to b;pass again;pass";
        CarriedLetters x = told(three);
        due("three", x.about(2), 3);
        due("the first is 0", x.pass(0, 0), 1);
        due("again", x.pass(1, 1), 1);
        due("the last is 2", x.pass(2, 1), 0);
        refused(x, "there is no 3", x.pass(3, 0), 1);
        faulty(three + ";pass", 5, three.length() + 1);
        faulty(three + ";pass again", 5, three.length() + 1);
        faulty(three + ";pass again again", 5, three.length() + 1);
        faulty(HEAD + "pass again again", 1, 28);
        faulty(HEAD + "again", 1, 17);
    }

    private static String rules(int n) {
        return ";rule a to b".repeat(n);
    }

    private static void eightRules() {
        about("a RULE of the latest PASS, numbered from 0; up to 8 of each");
        String eight = HEAD + "pass" + rules(8);
        due("eight", told(eight).pass(0, 0), 8);
        faulty(eight + ";rule a to b", 5, eight.length() + 1);
        faulty(eight + ";rule", 5, eight.length() + 1);
        faulty(eight + ";rule a to b;rule ?", 5, eight.length() + 1);
        String all = eight + ";pass" + rules(8) + ";pass" + rules(8);
        CarriedLetters x = told(all);
        due("24 of all", x.about(3), 24);
        due("the last of the last", x.rule(2, 7, 0), 1);
        refused(x, "none behind it", x.rule(2, 8, 0), 1);
        faulty(all + ";rule a to b", 5, all.length() + 1);
        faulty(all + ";pass", 5, all.length() + 1);
        CarriedLetters y = told(eight + ";pass");
        due("a PASS may have none", y.pass(1, 0), 0);
        refused(y, "none", y.rule(1, 0, 0), 1);
        String late = HEAD + "pass;pass;rule a to b;rule c to d";
        due("of the latest PASS alone", told(late).pass(0, 0), 0);
        due("both of them", told(late).pass(1, 0), 2);
    }

    private static void matches() {
        about("MATCH: 1 to 3 LETTERS");
        due("one", told(RULE + "h to b").rule(0, 0, 0), 1);
        due("three", told(RULE + "hhh to b").rule(0, 0, 0), 3);
        due("the third", told(RULE + "abh to b").letter(0, 0, 0, 2), 7);
        faulty(RULE + "abcd to b", 1, 27);
        faulty(RULE + "edge to b", 1, 27);
        faulty(RULE + "none to b", 1, 27);
        faulty(RULE + "to b", 1, 27);
        faulty(RULE + "before a to b", 1, 27);
        faulty(RULE + "after a to b", 1, 35);
        faulty(RULE + "after a before b to c", 1, 35);
        faulty(RULE + "; pass", 1, 27);
    }

    private static void outcomes() {
        about("OUTCOME: 1 to 4 LETTERS, or none");
        due("one", told(RULE + "a to h").rule(0, 0, 1), 1);
        due("four", told(RULE + "a to habh").rule(0, 0, 1), 4);
        due("the fourth", told(RULE + "a to habh").letter(0, 0, 1, 3), 7);
        due("none", told(RULE + "a to none").rule(0, 0, 1), 0);
        due("edge is LETTERS here", told(RULE + "a to edge").rule(0, 0, 1), 4);
        faulty(RULE + "a to abcde", 1, 32);
        faulty(RULE + "a to abcdefgh", 1, 32);
        faulty(RULE + "a to", 1, 31);
        faulty(RULE + "a to;pass", 1, 31);
        faulty(RULE + "a to none none", 1, 37);
        faulty(RULE + "a to nonea", 1, 32);
        faulty(RULE + "a", 1, 28);
        faulty(RULE + "a none", 1, 29);
    }

    private static void sides() {
        about("SIDE: a LETTER, a KIND's NAME, or edge");
        CarriedLetters x = told(HEAD + "kind kk of ah;pass;rule after edge a before edge to b;rule after kk a before kk to b;rule after h a before a to b;rule a to b");
        due("edge", x.rule(0, 0, 2), 256);
        due("edge", x.rule(0, 0, 3), 256);
        due("a KIND", x.rule(0, 1, 2), 129);
        due("a KIND", x.rule(0, 1, 3), 129);
        due("a LETTER", x.rule(0, 2, 2), 128);
        due("a LETTER", x.rule(0, 2, 3), 1);
        due("anything", x.rule(0, 3, 2), 511);
        due("anything", x.rule(0, 3, 3), 511);
        faulty(RULE + "after", 1, 32);
        faulty(RULE + "a before", 1, 35);
        faulty(RULE + "after ; a to b", 1, 33);
        faulty(RULE + "after 2 a to b", 1, 33);
        faulty(RULE + "after a after b c to d", 1, 35);
        faulty(RULE + "a before b before c to d", 1, 38);
        faulty(RULE + "a before b after c to d", 1, 38);
    }

    private static void keptNames() {
        about("NAMES of KINDS are none of script, kind, ..");
        for (String name : KEPT) {
            faulty(HEAD + "kind " + name + " of a", 1, 22);
            due(name + " and a letter more", told(HEAD + "kind " + name.substring(0, Math.min(6, name.length())) + "x of a;pass;rule a to b").kind(0), 1);
            due(name + " and a letter less", name.length() < 3 ? 1
                    : told(HEAD + "kind " + name.substring(1) + " of a;pass;rule a to b").kind(0), 1);
        }
    }

    // ---- faults

    private static void firstFromTheLeft() {
        about("FAULTS, the first that is met from the left");
        faulty("script letters 5;pass;pass;pass;pass", 2, 15);
        faulty("script letters 5?", 2, 15);
        faulty("script letters ?5", 1, 15);
        faulty(HEAD + "kind kk of aa;script", 3, 28);
        faulty(HEAD + "script letters 9", 3, 17);
        faulty(HEAD + "rule after kk a to b", 6, 17);
        faulty(RULE + "after kk abcd to b", 4, 33);
        faulty(RULE + "after kk", 4, 33);
        faulty(RULE + "abcd before kk to b", 1, 27);
        faulty(RULE + "a before kk ?", 4, 36);
        faulty(HEAD + "kind kk of a;kind kk", 3, 35);
        faulty(HEAD + "kind kk of a;kind kk of aa", 3, 35);
    }

    private static void leastNumber() {
        about("of one place the least number");
        // LETTERS that are like and others than a .. h: 1 and 3.
        faulty(HEAD + "kind kk of ii", 1, 28);
        faulty(HEAD + "kind kk of aai", 1, 28);
        // The end, with a LINE not ended and no RULE: 1 and 6.
        faulty(HEAD, 1, 17);
        faulty(PASS, 1, 22);
        faulty(RULE, 1, 27);
        faulty("", 1, 0);
        // A kept NAME can be no KIND's: 1 and 4.
        for (String name : KEPT) {
            if (!name.equals("edge")) {
                faulty(RULE + "after " + name + " a to b", 1, 33);
                faulty(RULE + "a before " + name + " to b", 1, 36);
            }
        }
    }

    private static void theEnd() {
        about("FORM: the end: its place");
        String text = HEAD + "kind kk of ab;pass again;rule after kk ab before kk to none";
        String[] unended = {"", "script", "script letters", HEAD, HEAD + "kind", HEAD + "kind kk", HEAD + "kind kk of",
            HEAD + "kind kk of ab;", HEAD + "kind kk of ab;pass;", HEAD + "kind kk of ab;pass again;", HEAD + "kind kk of ab;pass again;rule",
            HEAD + "kind kk of ab;pass again;rule after", HEAD + "kind kk of ab;pass again;rule after kk",
            HEAD + "kind kk of ab;pass again;rule after kk ab", HEAD + "kind kk of ab;pass again;rule after kk ab before",
            HEAD + "kind kk of ab;pass again;rule after kk ab before kk", HEAD + "kind kk of ab;pass again;rule after kk ab before kk to",
            text + ";"};
        for (String part : unended) {
            for (int more = 0; more < 3; more++) {
                faulty(part + blanks(more), 1, part.length() + more);
            }
        }
        told(text);
        // A NAME that breaks off is another NAME: told at its first letter.
        faulty("scrip", 1, 0);
        faulty("script letter", 1, 7);
        faulty(HEAD + "kin", 1, 17);
        faulty(HEAD + "kind kk o", 1, 25);
        faulty(HEAD + "pass agai", 1, 22);
        faulty(PASS + "rul", 1, 22);
        faulty(RULE + "a t", 1, 29);
        faulty(RULE + "a to non", 1, 32);
        faulty(RULE + "after edg a to b", 4, 33);
    }

    private static void tooManyLetters() {
        about("FORM: a NAME of more letters than may stand there, or of others than a .. h, where LETTERS must, too");
        faulty(RULE + "aaaa to b", 1, 27);
        faulty(RULE + "a to aaaaa", 1, 32);
        faulty(HEAD + "kind kk of hgfedcba", 1, 28);
        faulty(RULE + "aax to b", 1, 27);
        faulty(RULE + "a to aaax", 1, 32);
        faulty(HEAD + "kind kk of xa", 1, 28);
        faulty(RULE + "after kk to b", 4, 33);
        faulty(HEAD + "kind kk of a;pass;rule after kk to b", 1, 49);
    }

    private static void again() {
        about("3 AGAIN: a second script, at that NAME");
        faulty(HEAD + "script letters 2", 3, 17);
        faulty(HEAD + " script", 3, 18);
        faulty(HEAD + "script?", 3, 17);
        faulty(HEAD + "scripts", 1, 17);
        faulty(WHOLE + ";script", 3, 34);
        about("3 AGAIN: a KIND's NAME told again, at it");
        faulty(HEAD + "kind kk of a;kind kk of b", 3, 35);
        faulty(HEAD + "kind kk of a;kind kl of b;kind km of c;kind   kk of d", 3, 63);
        faulty(HEAD + "kind kk of a;pass;rule a to b;kind kk of a", 3, 52);
        due("the same LETTERS may be told again", told(HEAD + "kind kk of a;kind kl of a;pass;rule a to b").kind(1), 1);
        about("3 AGAIN: LETTERS of a KIND that aren't unlike, at them");
        faulty(HEAD + "kind kk of aa;pass;rule a to b", 3, 28);
        faulty(HEAD + "kind kk of   edge", 3, 30);
        due("those of a MATCH may be like", told(RULE + "aaa to bbbb").rule(0, 0, 1), 4);
    }

    private static void noKind() {
        about("4 a SIDE that is no KIND told ahead, at it (two letters at least)");
        faulty(RULE + "after kk a to b", 4, 33);
        faulty(RULE + "a before kk to b", 4, 36);
        faulty(RULE + "after ab a to b", 4, 33);
        faulty(RULE + "after zyxwvut a to b", 4, 33);
        faulty(RULE + "after k a to b", 1, 33);
        faulty(RULE + "after kk a to b;kind kk of a", 4, 33);
        faulty(HEAD + "kind kk of a;pass;rule after kl a to b", 4, 46);
        faulty(HEAD + "kind kk of a;pass;rule after kkk a to b", 4, 46);
        faulty(HEAD + "kind kkk of a;pass;rule after kk a to b", 4, 47);
        faulty(HEAD + "kind kk of a;pass;rule after kk a before   lk to b", 4, 60);
        due("told just ahead", told(PASS + "kind kk of a;rule after kk a to b").rule(0, 0, 2), 1);
        CarriedLetters x = told(HEAD + "kind kk of a;pass;rule after kk a to b");
        refused(x, "those of the script ahead count no more", tell(x, RULE + "after kk a to b"), 4);
        due("fault", x.fault(), 4);
        tell(x, HEAD + "kind zz of a;kind zz");
        refused(x, "nor those of a text with a fault", tell(x, RULE + "after zz a to b"), 4);
        due("fault", x.fault(), 4);
    }

    private static void lacks() {
        about("6 LACKS: a RULE ahead of any PASS; at its first NAME");
        faulty(HEAD + "rule a to b;pass", 6, 17);
        faulty(HEAD + "  rule", 6, 19);
        faulty(HEAD + "kind kk of a;rule ?", 6, 30);
        CarriedLetters x = told(WHOLE);
        refused(x, "a PASS of the script ahead is none", tell(x, HEAD + "rule a to b"), 4);
        due("fault", x.fault(), 6);
        due("at that RULE, not at the end", x.where(), 17);
        due("the script ahead has no RULE more", x.about(3), 1);
        about("6 LACKS: at the end: no RULE");
        faulty("script letters 2", 6, 16);
        faulty("script letters 2 ", 6, 17);
        faulty(HEAD + "pass", 6, 21);
        faulty(HEAD + "pass again   ", 6, 30);
        faulty(HEAD + "pass;pass;pass", 6, 31);
        faulty(HEAD + "kind kk of ab", 6, 30);
        due("one is enough", told(HEAD + "pass;pass;pass;rule a to b").about(3), 1);
    }

    public static void main(String[] args) {
        letters();
        tapeOf900();
        blanksPartTokens();
        everyByte();
        names();
        wholes();
        namesOfTheText();
        marks();
        sourceOf2To4();
        aheadOfAllOthers();
        kindNames();
        kindLetters();
        fourKinds();
        threePasses();
        eightRules();
        matches();
        outcomes();
        sides();
        keptNames();
        firstFromTheLeft();
        leastNumber();
        theEnd();
        tooManyLetters();
        again();
        noKind();
        lacks();
        end();
    }
}
