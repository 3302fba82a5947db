import java.util.ArrayDeque;
import java.util.ArrayList;
import java.util.Arrays;
import java.util.Deque;
import java.util.HashMap;
import java.util.List;
import java.util.Map;
import java.util.NoSuchElementException;
import java.util.Random;

/** Many runs of calls, made by a fixed row of numbers, against a model that does the document's words the slow way. */
public final class CarriedLettersAgainstModel extends Asking {
    // ---- the model

    private static final class Fault extends Exception {
        private static final long serialVersionUID = 1L;
        final int number;
        final int place;

        Fault(int number, int place) {
            this.number = number;
            this.place = place;
        }
    }

    private static final class Refusal extends Exception {
        private static final long serialVersionUID = 1L;
        final int number;

        Refusal(int number) {
            this.number = number;
        }
    }

    private record ModelRule(String match, String outcome, String ahead, String behind) {
    }

    private static final class ModelPass {
        boolean again;
        final List<ModelRule> rules = new ArrayList<>();
        final List<Boolean> aside = new ArrayList<>();
    }

    /** Letters beside a match are told as a text of them; '.' is the edge. */
    private static final String ALL = "abcdefgh.";

    private static final class ModelScript {
        int source;
        final Map<String, String> kinds = new HashMap<>();
        final List<String> kindNames = new ArrayList<>();
        final List<ModelPass> passes = new ArrayList<>();

        int rules() {
            return passes.stream().mapToInt(p -> p.rules.size()).sum();
        }
    }

    private record Token(String text, int place) {
        boolean isName() {
            return text.matches("[a-z]{1,7}");
        }
    }

    /** Lines parted at once, tokens at once; the least place wins, so what is behind it doesn't matter. */
    private static final class ModelReader {
        private static final List<String> KEPT = Arrays.asList("script", "kind", "pass", "rule", "letters", "of", "again",
                "after", "before", "to", "none", "edge");
        private final List<Token> tokens = new ArrayList<>();
        private int at = 0;
        private final ModelScript script = new ModelScript();

        ModelReader(String text) {
            int k = 0;
            while (k < text.length()) {
                char c = text.charAt(k);
                int from = k;
                if (c == ' ') {
                    k++;
                    continue;
                }
                String sort = c >= 'a' && c <= 'z' ? "[a-z]" : c >= '0' && c <= '9' ? "[0-9]" : null;
                k++;
                while (sort != null && k < text.length() && text.substring(k, k + 1).matches(sort)) {
                    k++;
                }
                tokens.add(new Token(text.substring(from, k), from));
            }
            tokens.add(new Token("", text.length()));
        }

        private Token here() {
            return tokens.get(at);
        }

        private Fault fault(int number) {
            return new Fault(number, here().place);
        }

        private void name(String text) throws Fault {
            if (!here().text.equals(text)) {
                throw fault(1);
            }
            at++;
        }

        private boolean maybe(String text) {
            if (here().text.equals(text)) {
                at++;
                return true;
            }
            return false;
        }

        private String letters(int most) throws Fault {
            String text = here().text;
            if (!text.matches("[a-h]{1," + most + "}")) {
                throw fault(1);
            }
            return text;
        }

        private String side() throws Fault {
            String text = here().text;
            if (text.equals("edge")) {
                at++;
                return ".";
            }
            if (text.matches("[a-h]")) {
                at++;
                return text;
            }
            if (!text.matches("[a-z]{2,7}") || KEPT.contains(text)) {
                throw fault(1);
            }
            if (!script.kinds.containsKey(text)) {
                throw fault(4);
            }
            at++;
            return script.kinds.get(text);
        }

        ModelScript read() throws Fault {
            boolean begun = false;
            while (true) {
                String first = here().text;
                if (!Arrays.asList("script", "kind", "pass", "rule").contains(first)) {
                    throw fault(1);
                }
                if (first.equals("script") == begun) {
                    if (begun) {
                        throw fault(3);
                    }
                    throw fault(6);
                }
                begun = true;
                line(first);
                if (here().text.isEmpty()) {
                    if (script.rules() == 0) {
                        throw fault(6);
                    }
                    return script;
                }
                name(";");
            }
        }

        private void line(String first) throws Fault {
            switch (first) {
                case "script" -> {
                    at++;
                    name("letters");
                    if (!here().text.matches("[0-9]")) {
                        throw fault(1);
                    }
                    script.source = Integer.parseInt(here().text);
                    if (script.source < 2 || script.source > 4) {
                        throw fault(2);
                    }
                    at++;
                }
                case "kind" -> kind();
                case "pass" -> {
                    if (script.passes.size() == 3) {
                        throw fault(5);
                    }
                    at++;
                    ModelPass pass = new ModelPass();
                    pass.again = maybe("again");
                    script.passes.add(pass);
                }
                default -> rule();
            }
        }

        private void kind() throws Fault {
            if (script.kindNames.size() == 4) {
                throw fault(5);
            }
            at++;
            String name = here().text;
            if (!name.matches("[a-z]{2,7}") || KEPT.contains(name)) {
                throw fault(1);
            }
            if (script.kinds.containsKey(name)) {
                throw fault(3);
            }
            at++;
            name("of");
            String letters = letters(7);
            if (letters.chars().distinct().count() != letters.length()) {
                throw fault(3);
            }
            at++;
            script.kinds.put(name, letters);
            script.kindNames.add(name);
        }

        private void rule() throws Fault {
            if (script.passes.isEmpty()) {
                throw fault(6);
            }
            ModelPass pass = script.passes.get(script.passes.size() - 1);
            if (pass.rules.size() == 8) {
                throw fault(5);
            }
            at++;
            String ahead = maybe("after") ? side() : ALL;
            String match = letters(3);
            at++;
            String behind = maybe("before") ? side() : ALL;
            name("to");
            String outcome = "";
            if (!here().text.equals("none")) {
                outcome = letters(4);
            }
            at++;
            pass.rules.add(new ModelRule(match, outcome, ahead, behind));
            pass.aside.add(false);
        }
    }

    private static final class Carried {
        final List<String> behind = new ArrayList<>();
        final List<Integer> rounds = new ArrayList<>();
        final int[][] served = new int[3][8];
        String out;
    }

    private static final class Model {
        StringBuilder tape = new StringBuilder();
        ModelScript script;
        Carried latest;
        Deque<int[]> acts = new ArrayDeque<>();
        int trouble;
        int fault;
        int place;

        static String letters(long word) throws Refusal {
            StringBuilder out = new StringBuilder();
            for (long w = word; w != 0; w >>>= 8) {
                out.insert(0, (char) (w & 255));
            }
            if (!out.toString().matches("[a-h]{1,8}")) {
                throw new Refusal(2);
            }
            return out.toString();
        }

        static long word(String letters) {
            long word = 0;
            for (char c : letters.toCharArray()) {
                word = word * 256 + c;
            }
            return word;
        }

        String round(ModelPass pass, String in, boolean turned, int[] served) throws Refusal {
            StringBuilder out = new StringBuilder();
            int place = 0;
            while (place < in.length()) {
                int best = -1;
                String bestMatch = "";
                for (int i = 0; i < pass.rules.size(); i++) {
                    ModelRule r = pass.rules.get(i);
                    String match = turned ? r.outcome : r.match;
                    if (pass.aside.get(i) || match.isEmpty() || !in.startsWith(match, place)) {
                        continue;
                    }
                    String ahead = place == 0 ? "." : in.substring(place - 1, place);
                    int end = place + match.length();
                    String behind = end == in.length() ? "." : in.substring(end, end + 1);
                    if (r.ahead.contains(ahead) && r.behind.contains(behind) && match.length() > bestMatch.length()) {
                        best = i;
                        bestMatch = match;
                    }
                }
                if (best < 0) {
                    out.append(in.charAt(place));
                    place++;
                } else {
                    served[best]++;
                    out.append(turned ? pass.rules.get(best).match : pass.rules.get(best).outcome);
                    place += bestMatch.length();
                }
            }
            if (out.length() > 60) {
                throw new Refusal(6);
            }
            return out.toString();
        }

        Carried carried(String word, boolean turned) throws Refusal {
            Carried c = new Carried();
            String now = word;
            for (int k = 0; k < script.passes.size(); k++) {
                int p = turned ? script.passes.size() - 1 - k : k;
                ModelPass pass = script.passes.get(p);
                int rounds = 0;
                while (true) {
                    String next = round(pass, now, turned, c.served[p]);
                    rounds++;
                    boolean same = next.equals(now);
                    now = next;
                    if (!pass.again || same) {
                        break;
                    }
                    if (rounds == 20) {
                        throw new Refusal(7);
                    }
                }
                c.behind.add(now);
                c.rounds.add(rounds);
            }
            c.out = now;
            return c;
        }

        List<String> words(int n) {
            List<String> all = new ArrayList<>();
            List<String> last = List.of("");
            for (int k = 0; k < n; k++) {
                List<String> next = new ArrayList<>();
                for (String w : last) {
                    for (int c = 0; c < script.source; c++) {
                        next.add(w + (char) ('a' + c));
                    }
                }
                all.addAll(next);
                last = next;
            }
            return all;
        }

        /** What came out of each; "!6" or "!7" of one that fails. */
        List<String> outs(List<String> words) {
            List<String> all = new ArrayList<>();
            for (String w : words) {
                try {
                    all.add(carried(w, false).out);
                } catch (Refusal r) {
                    all.add("!" + r.number);
                }
            }
            return all;
        }

        List<Integer> doubledOf(List<String> outs) {
            List<Integer> all = new ArrayList<>();
            Map<String, Integer> first = new HashMap<>();
            for (int i = 0; i < outs.size(); i++) {
                if (!outs.get(i).startsWith("!") && first.putIfAbsent(outs.get(i), i) != null) {
                    all.add(i);
                }
            }
            return all;
        }

        List<String> states(int p) {
            java.util.TreeSet<String> set = new java.util.TreeSet<>((a, b) -> a.length() != b.length() ? a.length() - b.length() : a.compareTo(b));
            set.add("");
            for (ModelRule r : passAt(p).rules) {
                for (int k = 1; k <= r.match.length(); k++) {
                    set.add(r.match.substring(0, k));
                }
            }
            return new ArrayList<>(set);
        }

        ModelPass passAt(int p) {
            return script.passes.get(p);
        }

        boolean hasPass(int p) {
            return script != null && p >= 0 && p < script.passes.size();
        }

        boolean hasRule(int p, int i) {
            return hasPass(p) && i >= 0 && i < passAt(p).rules.size();
        }

        void need(boolean holds, int number) throws Refusal {
            if (!holds) {
                throw new Refusal(number);
            }
        }

        /** Pieces, each as its text and what it is of. */
        List<Object[]> pieces(int p) {
            List<Object[]> all = new ArrayList<>();
            ModelPass pass = passAt(p);
            for (int i = 0; i < pass.rules.size(); i++) {
                if (!pass.aside.get(i)) {
                    all.add(new Object[] {pass.rules.get(i).outcome, i});
                }
            }
            for (int c = 0; c < 8; c++) {
                String letter = "" + (char) ('a' + c);
                boolean taken = false;
                for (int i = 0; i < pass.rules.size(); i++) {
                    ModelRule r = pass.rules.get(i);
                    taken |= !pass.aside.get(i) && r.match.equals(letter) && r.ahead.equals(ALL) && r.behind.equals(ALL);
                }
                if (!taken) {
                    all.add(new Object[] {letter, 8 + c});
                }
            }
            return all;
        }

        /** Rows of pieces as texts of their places in order, the least first. */
        void readings(List<Object[]> pieces, String letters, List<Integer> row, List<List<Integer>> all, int most) {
            if (letters.isEmpty()) {
                all.add(new ArrayList<>(row));
                return;
            }
            for (int k = 0; k < pieces.size() && all.size() < most; k++) {
                String text = (String) pieces.get(k)[0];
                if (!text.isEmpty() && letters.startsWith(text)) {
                    row.add((Integer) pieces.get(k)[1]);
                    readings(pieces, letters.substring(text.length()), row, all, most);
                    row.remove(row.size() - 1);
                }
            }
        }

        /** By what one row of pieces is ahead of the other one: the fewest letters that the two have in all. */
        int unclear(int p) {
            List<Object[]> pieces = pieces(p);
            for (Object[] piece : pieces) {
                if (((String) piece[0]).isEmpty()) {
                    return 0;
                }
            }
            java.util.PriorityQueue<Object[]> queue = new java.util.PriorityQueue<>((a, b) -> (Integer) a[0] - (Integer) b[0]);
            for (int i = 0; i < pieces.size(); i++) {
                for (int k = 0; k < pieces.size(); k++) {
                    String one = (String) pieces.get(i)[0];
                    String other = (String) pieces.get(k)[0];
                    if (i != k && one.startsWith(other)) {
                        queue.add(new Object[] {one.length(), one.substring(other.length())});
                    }
                }
            }
            java.util.Set<String> seen = new java.util.HashSet<>();
            while (!queue.isEmpty()) {
                Object[] first = queue.poll();
                int total = (Integer) first[0];
                String rest = (String) first[1];
                if (rest.isEmpty()) {
                    return total;
                }
                if (!seen.add(rest)) {
                    continue;
                }
                for (Object[] piece : pieces) {
                    String text = (String) piece[0];
                    if (rest.startsWith(text)) {
                        queue.add(new Object[] {total, rest.substring(text.length())});
                    } else if (text.startsWith(rest)) {
                        queue.add(new Object[] {total + text.length() - rest.length(), text.substring(rest.length())});
                    }
                }
            }
            return -2;
        }

        static int apart(String a, String b) {
            int[][] d = new int[a.length() + 1][b.length() + 1];
            for (int i = 0; i <= a.length(); i++) {
                for (int k = 0; k <= b.length(); k++) {
                    if (i == 0 || k == 0) {
                        d[i][k] = i + k;
                    } else {
                        int kept = d[i - 1][k - 1] + (a.charAt(i - 1) == b.charAt(k - 1) ? 0 : 1);
                        d[i][k] = Math.min(kept, 1 + Math.min(d[i - 1][k], d[i][k - 1]));
                    }
                }
            }
            return d[a.length()][b.length()];
        }

        static int bits(String letters) {
            int bits = 0;
            for (char c : letters.toCharArray()) {
                bits |= 1 << (c == '.' ? 8 : c - 'a');
            }
            return bits;
        }

        int letterAt(String letters, int k) throws Refusal {
            need(k >= 0 && k < letters.length(), 1);
            return letters.charAt(k) - 'a';
        }

        /** The calls that may be refused; those that can't are asked elsewhere. */
        long call(int c, long[] a) throws Refusal {
            int p = (int) a[0];
            int i = (int) a[1];
            int w = (int) a[2];
            int k = (int) a[3];
            switch (c) {
                case 0:
                    need(script != null && p >= 0 && p <= 3, 1);
                    return p == 0 ? script.source : p == 1 ? script.kindNames.size() : p == 2 ? script.passes.size() : script.rules();
                case 1:
                    need(script != null && p >= 0 && p < script.kindNames.size(), 1);
                    return bits(script.kinds.get(script.kindNames.get(p)));
                case 2:
                    need(hasPass(p) && i >= 0 && i <= 2, 1);
                    return i == 0 ? passAt(p).rules.size() : i == 1 ? (passAt(p).again ? 1 : 0) : states(p).size();
                case 3: {
                    need(hasRule(p, i) && w >= 0 && w <= 4, 1);
                    ModelRule r = passAt(p).rules.get(i);
                    return w == 0 ? r.match.length() : w == 1 ? r.outcome.length() : w == 2 ? bits(r.ahead)
                            : w == 3 ? bits(r.behind) : passAt(p).aside.get(i) ? 1 : 0;
                }
                case 4:
                    need(hasRule(p, i) && (w == 0 || w == 1), 1);
                    return letterAt(w == 0 ? passAt(p).rules.get(i).match : passAt(p).rules.get(i).outcome, k);
                case 5: {
                    need(hasPass(p) && i >= 0 && i < states(p).size() && w >= 0 && w < 8, 1);
                    int found = states(p).indexOf(states(p).get(i) + (char) ('a' + w));
                    return found < 0 ? -2 : found;
                }
                case 6:
                    need(hasPass(p) && i >= 0 && i < states(p).size(), 1);
                    return states(p).get(i).length();
                case 7: {
                    need(hasPass(p) && i >= 0 && i < states(p).size(), 1);
                    int bits = 0;
                    for (int r = 0; r < passAt(p).rules.size(); r++) {
                        bits |= passAt(p).rules.get(r).match.equals(states(p).get(i)) ? 1 << r : 0;
                    }
                    return bits;
                }
                default:
                    return callMore(c, a, p, i, w, k);
            }
        }

        private long callMore(int c, long[] a, int p, int i, int w, int k) throws Refusal {
            switch (c) {
                case 8:
                    need(hasPass(p), 1);
                    return pieces(p).size();
                case 9:
                    need(hasPass(p) && i >= 0 && i < pieces(p).size(), 1);
                    return (Integer) pieces(p).get(i)[1];
                case 10:
                    need(hasPass(p), 1);
                    return unclear(p) == -2 ? 1 : 0;
                case 11:
                    need(hasPass(p), 1);
                    return unclear(p);
                case 12: {
                    need(hasPass(p), 1);
                    List<List<Integer>> all = new ArrayList<>();
                    readings(pieces(p), letters(a[4]), new ArrayList<>(), all, 100000);
                    return all.size() == 100000 ? Long.MIN_VALUE : all.size();
                }
                case 13: {
                    need(hasPass(p), 1);
                    List<List<Integer>> all = new ArrayList<>();
                    readings(pieces(p), letters(a[4]), new ArrayList<>(), all, 1);
                    need(!all.isEmpty() && i >= 0 && i < all.get(0).size(), 1);
                    return all.get(0).get(i);
                }
                case 14: {
                    need(script != null, 1);
                    boolean sure = true;
                    for (int q = 0; q < script.passes.size(); q++) {
                        sure &= unclear(q) == -2 && !passAt(q).again;
                    }
                    return sure ? 1 : 0;
                }
                case 15:
                    latest = null;
                    need(script != null, 1);
                    latest = carried(letters(a[4]), false);
                    return latest.out.length();
                case 16:
                    need(latest != null, 1);
                    return letterAt(latest.out, p);
                case 17:
                    need(latest != null && hasPass(p), 1);
                    return latest.behind.get(p).length();
                case 18:
                    need(latest != null && hasPass(p), 1);
                    return letterAt(latest.behind.get(p), k);
                case 19:
                    need(latest != null && hasPass(p), 1);
                    return latest.rounds.get(p);
                case 20:
                    need(latest != null && hasRule(p, i), 1);
                    return latest.served[p][i];
                case 21: {
                    need(script != null, 1);
                    String one = letters(a[4]);
                    String other = letters(a[5]);
                    return apart(carried(one, false).out, carried(other, false).out);
                }
                case 22:
                    need(script != null, 1);
                    return carried(letters(a[4]), true).out.length();
                case 23:
                    need(script != null, 1);
                    return letterAt(carried(letters(a[4]), true).out, k);
                case 24:
                    need(hasRule(p, i), 1);
                    need(w == 0 || w == 1, 2);
                    need(passAt(p).aside.get(i) != (w == 1), 5);
                    passAt(p).aside.set(i, w == 1);
                    acts.addLast(new int[] {p, i});
                    if (acts.size() > 12) {
                        acts.removeFirst();
                    }
                    return script.passes.stream().mapToLong(q -> q.aside.stream().filter(x -> x).count()).sum();
                case 25: {
                    need(!acts.isEmpty(), 1);
                    int[] act = acts.removeLast();
                    passAt(act[0]).aside.set(act[1], !passAt(act[0]).aside.get(act[1]));
                    return 1;
                }
                default:
                    return callWords(c, a, p, i, w);
            }
        }

        private long callWords(int c, long[] a, int n, int i, int w) throws Refusal {
            need(script != null, 1);
            if (c == 28 || c == 30 || c == 31) {
                need(i == 0 || i == 1, 1);
            }
            if (c == 36) {
                need(hasPass(i), 1);
            }
            need(n >= 1 && n <= 5, 2);
            String out = c == 32 || c == 33 ? letters(a[4]) : "";
            List<String> words = words(n);
            if (c == 26) {
                return words.size();
            }
            List<String> outs = outs(words);
            List<Integer> doubled = doubledOf(outs);
            String failed = "!" + (6 + i);
            switch (c) {
                case 27:
                    return doubled.isEmpty() ? 1 : 0;
                case 28:
                    need(!doubled.isEmpty(), 5);
                    return word(words.get(i == 0 ? doubled.get(0) : outs.indexOf(outs.get(doubled.get(0)))));
                case 29:
                    return doubled.size();
                case 30:
                    return outs.stream().filter(o -> o.equals(failed)).count();
                case 31:
                    need(outs.contains(failed), 5);
                    return word(words.get(outs.indexOf(failed)));
                case 32:
                    return outs.stream().filter(o -> o.equals(out)).count();
                case 33: {
                    List<String> found = new ArrayList<>();
                    for (int q = 0; q < words.size(); q++) {
                        if (outs.get(q).equals(out)) {
                            found.add(words.get(q));
                        }
                    }
                    need(i >= 0 && i < found.size(), 1);
                    return word(found.get(i));
                }
                case 34:
                    return outs.stream().filter(o -> !o.startsWith("!")).mapToInt(String::length).max().orElse(-2);
                case 35: {
                    int most = outs.stream().filter(o -> !o.startsWith("!")).mapToInt(String::length).max().orElse(-2);
                    need(most >= 0, 5);
                    for (int q = 0; q < words.size(); q++) {
                        if (!outs.get(q).startsWith("!") && outs.get(q).length() == most) {
                            return word(words.get(q));
                        }
                    }
                    return 0;
                }
                case 36: {
                    int bits = (1 << passAt(i).rules.size()) - 1;
                    for (int q = 0; q < words.size(); q++) {
                        if (!outs.get(q).startsWith("!")) {
                            int[] served = carried(words.get(q), false).served[i];
                            for (int r = 0; r < 8; r++) {
                                bits &= served[r] > 0 ? ~(1 << r) : -1;
                            }
                        }
                    }
                    return bits;
                }
                case 37:
                case 38:
                    return callBack(c, words, outs);
                default:
                    return worst(words, doubled.size());
            }
        }

        private long callBack(int c, List<String> words, List<String> outs) throws Refusal {
            int back = 0;
            for (int q = 0; q < words.size(); q++) {
                if (outs.get(q).startsWith("!")) {
                    continue;
                }
                String came;
                try {
                    came = carried(outs.get(q), true).out;
                } catch (Refusal r) {
                    came = "!";
                }
                if (came.equals(words.get(q))) {
                    back++;
                } else if (c == 38) {
                    return word(words.get(q));
                }
            }
            need(c == 37, 5);
            return back;
        }

        private long worst(List<String> words, int doubled) {
            int fewest = doubled;
            long found = -2;
            for (int p = 0; p < script.passes.size(); p++) {
                for (int i = 0; i < passAt(p).rules.size(); i++) {
                    if (passAt(p).aside.get(i)) {
                        continue;
                    }
                    passAt(p).aside.set(i, true);
                    int left = doubledOf(outs(words)).size();
                    passAt(p).aside.set(i, false);
                    if (left < fewest) {
                        fewest = left;
                        found = 10L * p + i;
                    }
                }
            }
            return found;
        }

        long ask(int c, long[] a) {
            try {
                long answer = call(c, a);
                trouble = 0;
                return answer;
            } catch (Refusal r) {
                trouble = r.number;
                return c == 25 ? 0 : -1;
            }
        }

        int script(int n) {
            if (n < 0 || n > tape.length()) {
                trouble = 2;
                return -1;
            }
            String text = tape.substring(0, n);
            tape.setLength(0);
            try {
                script = new ModelReader(text).read();
                latest = null;
                acts.clear();
                fault = 0;
                trouble = 0;
                return script.passes.size();
            } catch (Fault f) {
                fault = f.number;
                place = f.place;
                trouble = 4;
                return -1;
            }
        }

        int empty(int i) {
            int found = 0;
            for (int p = 0; script != null && p < script.passes.size(); p++) {
                if (!passAt(p).aside.contains(false) && found++ == i) {
                    return p;
                }
            }
            return THROWN;
        }
    }

    // ---- the class, by the same numbers of calls

    private static final String[] NAMES = {"about", "kind", "pass", "rule", "letter", "goes", "depth", "ends", "pieces", "piece",
        "clear", "unclear", "readings", "reading", "sure", "carry", "out", "behind", "outOf", "rounds", "served", "apart", "turned",
        "turnedOut", "aside", "undo", "words", "reversible", "failing", "doubled", "fails", "firstFail", "sources", "source",
        "longest", "longestOf", "idle", "comeBack", "lost", "worst"};

    private static long ask(CarriedLetters x, int c, long[] a) {
        int p = (int) a[0];
        int i = (int) a[1];
        int w = (int) a[2];
        int k = (int) a[3];
        return switch (NAMES[c]) {
            case "about" -> x.about(p);
            case "kind" -> x.kind(p);
            case "pass" -> x.pass(p, i);
            case "rule" -> x.rule(p, i, w);
            case "letter" -> x.letter(p, i, w, k);
            case "goes" -> x.goes(p, i, w);
            case "depth" -> x.depth(p, i);
            case "ends" -> x.ends(p, i);
            case "pieces" -> x.pieces(p);
            case "piece" -> x.piece(p, i);
            case "clear" -> x.clear(p);
            case "unclear" -> x.unclear(p);
            case "readings" -> x.readings(p, a[4]);
            case "reading" -> x.reading(p, a[4], i);
            case "sure" -> x.sure();
            case "carry" -> x.carry(a[4]);
            case "out" -> x.out(p);
            case "behind" -> x.behind(p);
            case "outOf" -> x.outOf(p, k);
            case "rounds" -> x.rounds(p);
            case "served" -> x.served(p, i);
            case "apart" -> x.apart(a[4], a[5]);
            case "turned" -> x.turned(a[4]);
            case "turnedOut" -> x.turnedOut(a[4], k);
            case "aside" -> x.aside(p, i, w);
            case "undo" -> x.undo() ? 1 : 0;
            case "words" -> x.words(p);
            case "reversible" -> x.reversible(p);
            case "failing" -> x.failing(p, i);
            case "doubled" -> x.doubled(p);
            case "fails" -> x.fails(p, i);
            case "firstFail" -> x.firstFail(p, i);
            case "sources" -> x.sources(p, a[4]);
            case "source" -> x.source(p, a[4], i);
            case "longest" -> x.longest(p);
            case "longestOf" -> x.longestOf(p);
            case "idle" -> x.idle(i, p);
            case "comeBack" -> x.comeBack(p);
            case "lost" -> x.lost(p);
            default -> x.worst(p);
        };
    }

    // ---- runs

    private static final Random random = new Random(20261118);
    private static int wrong = 0;
    private static final int[] answered = new int[NAMES.length];
    private static final int[] refusals = new int[8];
    private static final int[] faultsMet = new int[7];

    private static int below(int n) {
        return random.nextInt(n);
    }

    private static String someLetters(int most, int alphabet) {
        StringBuilder out = new StringBuilder();
        int n = 1 + below(most);
        for (int k = 0; k < n; k++) {
            out.append((char) ('a' + below(alphabet)));
        }
        return out.toString();
    }

    private static String someSide(List<String> kinds, int alphabet) {
        int what = below(5);
        if (what == 0) {
            return "edge";
        }
        if (what < 3 && !kinds.isEmpty()) {
            return kinds.get(below(kinds.size()));
        }
        return someLetters(1, alphabet);
    }

    private static String someScript() {
        int source = 2 + below(3);
        int alphabet = Math.min(8, source + below(4));
        StringBuilder text = new StringBuilder("script letters " + source);
        List<String> kinds = new ArrayList<>();
        int kindCount = below(4);
        for (int k = 0; k < kindCount; k++) {
            String name = "k" + (char) ('a' + k);
            StringBuilder letters = new StringBuilder();
            for (char c = 'a'; c <= 'h'; c++) {
                if (letters.length() < 7 && below(3) == 0) {
                    letters.append(c);
                }
            }
            text.append(";kind ").append(name).append(" of ").append(letters.length() == 0 ? "b" : letters);
            kinds.add(name);
        }
        int passes = 1 + below(3);
        for (int p = 0; p < passes; p++) {
            text.append(below(3) == 0 ? ";pass again" : ";pass");
            int rules = (p == 0 ? 1 : 0) + below(below(3) == 0 ? 8 : 4);
            for (int i = 0; i < rules && text.length() < 850; i++) {
                text.append(";rule ");
                if (below(4) == 0) {
                    text.append("after ").append(someSide(kinds, alphabet)).append(' ');
                }
                text.append(someLetters(1 + below(3), alphabet));
                if (below(4) == 0) {
                    text.append(" before ").append(someSide(kinds, alphabet));
                }
                text.append(" to ").append(below(8) == 0 ? "none" : someLetters(1 + below(4), alphabet));
            }
        }
        return text.toString();
    }

    private static String spoilt(String text) {
        StringBuilder out = new StringBuilder(text);
        int times = 1 + below(2);
        for (int t = 0; t < times; t++) {
            String[] parts = {"a", "i", " ", ";", "2", "5", "22", "rule", "pass", "kind", "script", "edge", "none", "to", "abcdefgh",
                "kz", ";pass", ";kind ka of a", ";rule a to b", "aa", "after", "before", "again", "?", "" + (char) 255, "" + (char) 0};
            int at = below(out.length() + 1);
            switch (below(7)) {
                case 0, 1 -> out.insert(at, parts[below(parts.length)]);
                case 2 -> out.replace(0, out.length(), out.toString().replaceFirst("letters [0-9]", "letters " + below(10)));
                case 3 -> out.replace(0, out.length(), out.toString().replaceFirst("k[a-c] ", "kz "));
                case 4, 5 -> out.delete(at, Math.min(out.length(), at + 1 + below(6)));
                default -> out.setLength(at);
            }
            if (below(2) == 0) {
                // A whole line again, somewhere: too many of it, or again, or ahead of what it needs.
                String[] lines = out.toString().split(";", -1);
                int line = below(lines.length);
                List<String> list = new ArrayList<>(Arrays.asList(lines));
                list.add(below(list.size() + 1), lines[line]);
                out = new StringBuilder(String.join(";", list));
            }
        }
        out.setLength(Math.min(out.length(), 900));
        return out.toString();
    }

    private static void feed(CarriedLetters x, Model model, String text) {
        String padded = text + " ".repeat((20 - text.length() % 20) % 20);
        for (int at = 0; at < padded.length(); at += 20) {
            int[] n = twenty(padded, at);
            int due = -1;
            if (model.tape.length() + 20 <= 900) {
                model.tape.append(padded, at, at + 20);
                due = model.tape.length();
            }
            check("feed", x.feed(n[0], n[1], n[2], n[3], n[4]), due, text);
        }
    }

    private static void check(String call, long got, long want, String text) {
        if (got != want && wrong++ < 20) {
            System.out.println(call + " answered " + got + ", due is " + want + " with " + text);
        }
    }

    private static void checkState(CarriedLetters x, Model model, String text) {
        check("trouble", x.trouble(), model.trouble, text);
        check("fault", x.fault(), model.fault, text);
        check("where", x.where(), model.trouble == 4 ? model.place : -1, text);
        check("size(0)", x.size(0), model.tape.length(), text);
        check("size(1)", x.size(1), model.acts.size(), text);
        check("size(2)", x.size(2), model.latest == null ? 0 : model.latest.out.length(), text);
        int i = below(4) - 1;
        int got;
        try {
            got = x.empty(i);
        } catch (NoSuchElementException e) {
            got = THROWN;
        }
        check("empty(" + i + ")", got, model.empty(i), text);
    }

    private static long someWord() {
        int what = below(30);
        if (what == 0) {
            return random.nextLong();
        }
        if (what == 1) {
            return new long[] {0, -1, 96, 105, 0x610061, 0x6100, Long.MAX_VALUE, Long.MIN_VALUE}[below(8)];
        }
        return Model.word(someLetters(1 + below(8), 2 + below(7)));
    }

    private static long someNumber(int most) {
        int what = below(60);
        return what == 0 ? -1 : what == 1 ? Integer.MAX_VALUE : what == 2 ? Integer.MIN_VALUE : below(most);
    }

    private static void ask(CarriedLetters x, Model model, String text) {
        int c = below(NAMES.length);
        if (model.latest == null && c >= 16 && c <= 20) {
            c = 15;
        }
        long[] a = {someNumber(3), someNumber(below(2) == 0 ? 3 : 10), someNumber(below(2) == 0 ? 2 : 8), someNumber(8), someWord(), someWord()};
        if (c == 0 || c == 1 || c == 16) {
            // No number of a PASS.
            a[0] = someNumber(6);
        }
        if (c >= 26) {
            // Longer words now and then: the model is slow.
            a[0] = below(25) == 0 ? below(8) - 1 : 1 + below(below(8) == 0 ? 4 : 3);
            if (c == 32 || c == 33) {
                a[4] = below(9) == 0 ? someWord() : Model.word(someLetters(3, 3));
            }
        }
        long want = model.ask(c, a);
        long got = ask(x, c, a);
        if (want != Long.MIN_VALUE) {
            check(NAMES[c] + Arrays.toString(a), got, want, text);
        }
        if (model.trouble == 0) {
            answered[c]++;
        }
        refusals[model.trouble]++;
    }

    private static void run() {
        CarriedLetters x = new CarriedLetters();
        Model model = new Model();
        String text = "nothing";
        int calls = 0;
        while (calls < 150) {
            if (calls == 0 || below(25) == 0) {
                String next = someScript();
                next = below(5) == 0 ? spoilt(next) : next;
                feed(x, model, next);
                int n = below(25) == 0 ? below(1000) - 50 : Math.min(next.length(), 900);
                text = next.substring(0, Math.max(0, Math.min(n, next.length()))) + " behind " + text.substring(0, Math.min(300, text.length()));
                check("script " + n, x.script(n), model.script(n), text);
                faultsMet[model.fault]++;
                checkState(x, model, text);
                calls += 50;
            }
            ask(x, model, text);
            check("trouble", x.trouble(), model.trouble, text);
            if (below(8) == 0) {
                checkState(x, model, text);
            }
            calls++;
        }
    }

    private static void onlyTexts(int runs) {
        for (int k = 0; k < runs; k++) {
            CarriedLetters x = new CarriedLetters();
            Model model = new Model();
            String text = spoilt(someScript());
            feed(x, model, text);
            check("script", x.script(text.length()), model.script(text.length()), text);
            faultsMet[model.fault]++;
            checkState(x, model, text);
        }
    }

    public static void main(String[] args) {
        int runs = args.length > 1 ? Integer.parseInt(args[1]) : 4000;
        onlyTexts(4 * runs);
        for (int k = 0; k < runs; k++) {
            run();
        }
        for (int c = 0; c < NAMES.length; c++) {
            if (answered[c] == 0) {
                wrong++;
                System.out.println(NAMES[c] + " was never answered");
            }
        }
        System.out.println("refusals " + Arrays.toString(refusals) + ", faults " + Arrays.toString(faultsMet));
        System.out.println(wrong == 0 ? "all answers are as the model's" : wrong + " answers are not as the model's");
        if (wrong != 0) {
            System.exit(1);
        }
    }
}
