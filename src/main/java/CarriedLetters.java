import java.util.Arrays;
import java.util.NoSuchElementException;

/** Letters carried across from one script to another: what it promises stands in the document, how it is used in README.md. */
public final class CarriedLetters {
    public static final int NONE = -1;

    /** The answer where there is nothing to tell, though the call is not refused. */
    private static final int NOTHING = -2;

    private static final int ALPHABET = 8;
    /** Stands behind the letters 0 .. 7 among what may be beside a match. */
    private static final int EDGE = 8;
    private static final int ANYTHING = 511;

    private static final int MOST_BYTES = 900;
    private static final int FED_BYTES = 20;
    private static final int MOST_NAME = 7;
    private static final int MOST_KINDS = 4;
    private static final int MOST_PASSES = 3;
    private static final int MOST_RULES = 8;
    private static final int MOST_MATCH = 3;
    private static final int MOST_OUTCOME = 4;
    private static final int MOST_WORD = 8;
    private static final int MOST_OUT = 60;
    private static final int MOST_ROUNDS = 20;
    private static final int MOST_ACTS = 12;

    /** The words of up to this many letters are looked through whole. */
    private static final int MOST_SPELLED = 5;
    /** 4 + 16 + 64 + 256 + 1024 words of 1 .. 5 letters. */
    private static final int MOST_WORDS = 1364;

    private static final int NO_SUCH = 1;
    private static final int BAD_NUMBER = 2;
    private static final int FAULTY = 4;
    private static final int NOT_SO = 5;
    private static final int TOO_LONG = 6;
    private static final int ENDLESS = 7;

    private final int[] tape = new int[MOST_BYTES];
    private final Reader reader = new Reader();
    private final Carrier latest = new Carrier();
    private final Carrier helper = new Carrier();
    private final Row taken = new Row(MOST_WORD);
    private final Row takenSecond = new Row(MOST_WORD);
    private final Row cameFirst = new Row(MOST_OUT);
    private final int[] changes = new int[MOST_OUT + 1];
    private final Pieces gathered = new Pieces();
    private final Acts acts = new Acts();
    private Script told = new Script();
    private Script spare = new Script();
    /** Made with the first call that needs it: it is far the greatest part of an object. */
    private Census census;
    private int tapeLength;
    private int lastFault;
    private int lastPlace;
    private int lastTrouble;
    private boolean carried;

    public CarriedLetters() {
    }

    // ---- the script

    public int feed(int a, int b, int c, int d, int e) {
        if (tapeLength + FED_BYTES > MOST_BYTES) {
            return NONE;
        }
        putOnTape(a);
        putOnTape(b);
        putOnTape(c);
        putOnTape(d);
        putOnTape(e);
        return tapeLength;
    }

    private void putOnTape(int number) {
        for (int shift = 24; shift >= 0 && tapeLength < MOST_BYTES; shift -= 8) {
            tape[tapeLength] = (number >>> shift) & 255;
            tapeLength++;
        }
    }

    public int script(int n) {
        if (n < 0 || n > tapeLength) {
            return refuse(BAD_NUMBER);
        }
        tapeLength = 0;
        lastFault = reader.read(tape, n, spare);
        lastPlace = reader.faultPlace;
        if (lastFault != 0) {
            return refuse(FAULTY);
        }
        Script old = told;
        told = spare;
        spare = old;
        carried = false;
        acts.drop();
        forgetWords();
        return answer(told.passCount);
    }

    public int fault() {
        return lastFault;
    }

    public int where() {
        return lastTrouble == FAULTY ? lastPlace : NONE;
    }

    public int about(int what) {
        if (noScript()) {
            return refuse(NO_SUCH);
        }
        switch (what) {
            case 0:
                return answer(told.sourceLetters);
            case 1:
                return answer(told.kindCount);
            case 2:
                return answer(told.passCount);
            case 3:
                return answer(told.ruleCount());
            default:
                return refuse(NO_SUCH);
        }
    }

    public int kind(int i) {
        if (i < 0 || i >= told.kindCount || i >= MOST_KINDS) {
            return refuse(NO_SUCH);
        }
        return answer(told.kindLetters[i]);
    }

    public int pass(int p, int what) {
        Pass pass = told.passAt(p);
        if (pass == null) {
            return refuse(NO_SUCH);
        }
        switch (what) {
            case 0:
                return answer(pass.ruleCount);
            case 1:
                return answer(pass.again ? 1 : 0);
            case 2:
                return answer(pass.straight.states);
            default:
                return refuse(NO_SUCH);
        }
    }

    public int rule(int p, int i, int what) {
        Rule rule = told.ruleAt(p, i);
        if (rule == null) {
            return refuse(NO_SUCH);
        }
        switch (what) {
            case 0:
                return answer(rule.match.length);
            case 1:
                return answer(rule.outcome.length);
            case 2:
                return answer(rule.ahead);
            case 3:
                return answer(rule.behind);
            case 4:
                return answer(told.isAside(p, i) ? 1 : 0);
            default:
                return refuse(NO_SUCH);
        }
    }

    public int letter(int p, int i, int what, int k) {
        Rule rule = told.ruleAt(p, i);
        if (rule == null || what < 0 || what > 1) {
            return refuse(NO_SUCH);
        }
        return answerLetter(what == 0 ? rule.match : rule.outcome, k);
    }

    // ---- the machine

    public int goes(int p, int state, int letter) {
        Machine machine = machineWith(p, state);
        if (machine == null || letter < 0 || letter >= ALPHABET) {
            return refuse(NO_SUCH);
        }
        return answer(machine.step(state, letter));
    }

    public int depth(int p, int state) {
        Machine machine = machineWith(p, state);
        return machine == null ? refuse(NO_SUCH) : answer(machine.depthOf(state));
    }

    public int ends(int p, int state) {
        Machine machine = machineWith(p, state);
        return machine == null ? refuse(NO_SUCH) : answer(machine.endingAt(state));
    }

    private Machine machineWith(int p, int state) {
        Pass pass = told.passAt(p);
        return pass == null || !pass.straight.has(state) ? null : pass.straight;
    }

    // ---- pieces

    public int pieces(int p) {
        return gatherPieces(p) ? answer(gathered.count) : refuse(NO_SUCH);
    }

    public int piece(int p, int i) {
        if (!gatherPieces(p) || i < 0 || i >= gathered.count) {
            return refuse(NO_SUCH);
        }
        return answer(gathered.whatOf(i));
    }

    public int clear(int p) {
        if (!gatherPieces(p)) {
            return refuse(NO_SUCH);
        }
        return answer(gathered.fewestReadTwice() == NOTHING ? 1 : 0);
    }

    public int unclear(int p) {
        return gatherPieces(p) ? answer(gathered.fewestReadTwice()) : refuse(NO_SUCH);
    }

    public int readings(int p, long letters) {
        if (!gatherPieces(p)) {
            return refuse(NO_SUCH);
        }
        return taken.takeWord(letters) ? answer(gathered.countReadings(taken)) : refuse(BAD_NUMBER);
    }

    public int reading(int p, long letters, int i) {
        if (!gatherPieces(p)) {
            return refuse(NO_SUCH);
        }
        if (!taken.takeWord(letters)) {
            return refuse(BAD_NUMBER);
        }
        int found = gathered.firstReadingAt(taken, i);
        return found == NONE ? refuse(NO_SUCH) : answer(found);
    }

    public int sure() {
        if (noScript()) {
            return refuse(NO_SUCH);
        }
        for (int p = 0; p < told.passCount; p++) {
            Pass pass = told.passAt(p);
            if (pass == null || pass.again) {
                return answer(0);
            }
            gathered.gather(pass);
            if (gathered.fewestReadTwice() != NOTHING) {
                return answer(0);
            }
        }
        return answer(1);
    }

    private boolean gatherPieces(int p) {
        Pass pass = told.passAt(p);
        if (pass == null) {
            return false;
        }
        gathered.gather(pass);
        return true;
    }

    // ---- words carried

    public int carry(long word) {
        carried = false;
        if (noScript()) {
            return refuse(NO_SUCH);
        }
        if (!taken.takeWord(word)) {
            return refuse(BAD_NUMBER);
        }
        int trouble = latest.bring(told, taken, false);
        if (trouble != 0) {
            return refuse(trouble);
        }
        carried = true;
        return answer(latest.came.length);
    }

    public int out(int k) {
        return carried ? answerLetter(latest.came, k) : refuse(NO_SUCH);
    }

    public int behind(int p) {
        Row row = carriedBehind(p);
        return row == null ? refuse(NO_SUCH) : answer(row.length);
    }

    public int outOf(int p, int k) {
        Row row = carriedBehind(p);
        return row == null ? refuse(NO_SUCH) : answerLetter(row, k);
    }

    public int rounds(int p) {
        return carriedBehind(p) == null ? refuse(NO_SUCH) : answer(latest.roundsOf(p));
    }

    public int served(int p, int i) {
        if (!carried || told.ruleAt(p, i) == null) {
            return refuse(NO_SUCH);
        }
        return answer(latest.servedBy(p, i));
    }

    private Row carriedBehind(int p) {
        return carried && told.passAt(p) != null ? latest.behindPass(p) : null;
    }

    public int apart(long one, long other) {
        if (noScript()) {
            return refuse(NO_SUCH);
        }
        if (!taken.takeWord(one) || !takenSecond.takeWord(other)) {
            return refuse(BAD_NUMBER);
        }
        int trouble = helper.bring(told, taken, false);
        if (trouble != 0) {
            return refuse(trouble);
        }
        cameFirst.copy(helper.came);
        trouble = helper.bring(told, takenSecond, false);
        if (trouble != 0) {
            return refuse(trouble);
        }
        return answer(cameFirst.changesTo(helper.came, changes));
    }

    public int turned(long word) {
        int trouble = bringTurned(word);
        return trouble != 0 ? refuse(trouble) : answer(helper.came.length);
    }

    public int turnedOut(long word, int k) {
        int trouble = bringTurned(word);
        return trouble != 0 ? refuse(trouble) : answerLetter(helper.came, k);
    }

    private int bringTurned(long letters) {
        if (noScript()) {
            return NO_SUCH;
        }
        return taken.takeWord(letters) ? helper.bring(told, taken, true) : BAD_NUMBER;
    }

    // ---- words up to n

    public int words(int n) {
        int trouble = troubleUpTo(n, true);
        return trouble != 0 ? refuse(trouble) : answer(countUpTo(told.sourceLetters, n));
    }

    public int reversible(int n) {
        int trouble = troubleUpTo(n, true);
        return trouble != 0 ? refuse(trouble) : answer(censusUpTo(n).firstDoubled(n) == NONE ? 1 : 0);
    }

    public long failing(int n, int what) {
        int trouble = troubleUpTo(n, what == 0 || what == 1);
        if (trouble != 0) {
            return refuse(trouble);
        }
        Census all = censusUpTo(n);
        int found = all.firstDoubled(n);
        if (found == NONE) {
            return refuse(NOT_SO);
        }
        return answerWord(all, what == 0 ? found : all.firstAlike(found));
    }

    public int doubled(int n) {
        int trouble = troubleUpTo(n, true);
        return trouble != 0 ? refuse(trouble) : answer(censusUpTo(n).countDoubled(n));
    }

    public int fails(int n, int what) {
        int trouble = troubleUpTo(n, what == 0 || what == 1);
        if (trouble != 0) {
            return refuse(trouble);
        }
        return answer(censusUpTo(n).countFailed(n, what == 0 ? TOO_LONG : ENDLESS));
    }

    public long firstFail(int n, int what) {
        int trouble = troubleUpTo(n, what == 0 || what == 1);
        if (trouble != 0) {
            return refuse(trouble);
        }
        Census all = censusUpTo(n);
        int found = all.firstFailed(n, what == 0 ? TOO_LONG : ENDLESS);
        return found == NONE ? refuse(NOT_SO) : answerWord(all, found);
    }

    public int sources(int n, long out) {
        int trouble = troubleOfSource(n, out);
        return trouble != 0 ? refuse(trouble) : answer(censusUpTo(n).countSources(n, taken));
    }

    public long source(int n, long out, int i) {
        int trouble = troubleOfSource(n, out);
        if (trouble != 0) {
            return refuse(trouble);
        }
        Census all = censusUpTo(n);
        int found = all.sourceAt(n, taken, i);
        return found == NONE ? refuse(NO_SUCH) : answerWord(all, found);
    }

    public int longest(int n) {
        int trouble = troubleUpTo(n, true);
        if (trouble != 0) {
            return refuse(trouble);
        }
        Census all = censusUpTo(n);
        int found = all.firstLongest(n);
        return answer(found == NONE ? NOTHING : all.lengthOf(found));
    }

    public long longestOf(int n) {
        int trouble = troubleUpTo(n, true);
        if (trouble != 0) {
            return refuse(trouble);
        }
        Census all = censusUpTo(n);
        int found = all.firstLongest(n);
        return found == NONE ? refuse(NOT_SO) : answerWord(all, found);
    }

    public int idle(int p, int n) {
        Pass pass = told.passAt(p);
        int trouble = troubleUpTo(n, pass != null);
        if (trouble != 0 || pass == null) {
            return refuse(trouble);
        }
        return answer(bitsBelow(pass.ruleCount) & ~censusUpTo(n).servingIn(p, n));
    }

    public int comeBack(int n) {
        int trouble = troubleUpTo(n, true);
        if (trouble != 0) {
            return refuse(trouble);
        }
        Census all = censusUpTo(n);
        all.learnBack(n);
        return answer(all.countBack(n));
    }

    public long lost(int n) {
        int trouble = troubleUpTo(n, true);
        if (trouble != 0) {
            return refuse(trouble);
        }
        Census all = censusUpTo(n);
        all.learnBack(n);
        int found = all.firstLost(n);
        return found == NONE ? refuse(NOT_SO) : answerWord(all, found);
    }

    public int worst(int n) {
        int trouble = troubleUpTo(n, true);
        return trouble != 0 ? refuse(trouble) : answer(censusUpTo(n).worstRule(n));
    }

    /** The document meets "no such" ahead of a bad n, so what else must be there is asked first. */
    private int troubleUpTo(int n, boolean isThere) {
        if (noScript() || !isThere) {
            return NO_SUCH;
        }
        return n < 1 || n > MOST_SPELLED ? BAD_NUMBER : 0;
    }

    private int troubleOfSource(int n, long out) {
        int trouble = troubleUpTo(n, true);
        if (trouble != 0) {
            return trouble;
        }
        return taken.takeWord(out) ? 0 : BAD_NUMBER;
    }

    private Census censusUpTo(int n) {
        if (census == null) {
            census = new Census();
        }
        census.learn(told, n);
        return census;
    }

    private void forgetWords() {
        if (census != null) {
            census.forget();
        }
    }

    // ---- acts

    public int aside(int p, int i, int is) {
        if (told.ruleAt(p, i) == null) {
            return refuse(NO_SUCH);
        }
        if (is != 0 && is != 1) {
            return refuse(BAD_NUMBER);
        }
        if (told.isAside(p, i) == (is == 1)) {
            return refuse(NOT_SO);
        }
        told.turnAside(p, i);
        acts.keep(p, i);
        forgetWords();
        return answer(told.asideCount());
    }

    public boolean undo() {
        int act = acts.takeLatest();
        if (act == NONE) {
            lastTrouble = NO_SUCH;
            return false;
        }
        told.turnAside(act / MOST_RULES, act % MOST_RULES);
        forgetWords();
        lastTrouble = 0;
        return true;
    }

    // ---- what is told

    public int empty(int i) throws NoSuchElementException {
        int found = 0;
        for (int p = 0; p < told.passCount; p++) {
            Pass pass = told.passAt(p);
            if (pass != null && pass.serving() == 0) {
                if (found == i) {
                    return p;
                }
                found++;
            }
        }
        throw new NoSuchElementException("no such pass");
    }

    public int size(int what) {
        switch (what) {
            case 0:
                return tapeLength;
            case 1:
                return acts.count;
            case 2:
                return carried ? latest.came.length : 0;
            default:
                return NONE;
        }
    }

    public int trouble() {
        return lastTrouble;
    }

    private boolean noScript() {
        return told.passCount == 0;
    }

    private int refuse(int number) {
        lastTrouble = number;
        return NONE;
    }

    private int answer(int value) {
        lastTrouble = 0;
        return value;
    }

    private int answerLetter(Row row, int k) {
        int found = row.at(k);
        return found == NONE ? refuse(NO_SUCH) : answer(found);
    }

    private long answerWord(Census all, int i) {
        lastTrouble = 0;
        return all.spelled(i);
    }

    private static int bitsBelow(int count) {
        return (1 << count) - 1;
    }

    /** How many words of 1 .. n of so many letters there are. */
    private static int countUpTo(int letters, int n) {
        int all = 0;
        int ofLength = 1;
        for (int k = 0; k < n && k < MOST_SPELLED; k++) {
            ofLength *= letters;
            all += ofLength;
        }
        return all;
    }

    /** Letters (0 .. 7) in a row, no more of them than it was made for. */
    private static final class Row {
        /** So many letters of three bits go into one long, a 1 ahead of them telling how many there are. */
        static final int IN_BLOCK = 20;

        private final int[] letters;
        private int length;

        Row(int most) {
            letters = new int[most < 0 ? 0 : most];
        }

        void drop() {
            length = 0;
        }

        boolean add(int letter) {
            if (length >= letters.length) {
                return false;
            }
            letters[length] = letter & (ALPHABET - 1);
            length++;
            return true;
        }

        /** All of another row or, where there is no room for it, nothing. */
        boolean addAll(Row more) {
            if (length + more.length > letters.length) {
                return false;
            }
            System.arraycopy(more.letters, 0, letters, length, more.length);
            length += more.length;
            return true;
        }

        void copy(Row from) {
            drop();
            addAll(from);
        }

        int at(int k) {
            return k < 0 || k >= length || k >= letters.length ? NONE : letters[k];
        }

        int beside(int k) {
            return k < 0 || k >= length || k >= letters.length ? EDGE : letters[k];
        }

        boolean same(Row with) {
            if (length != with.length) {
                return false;
            }
            for (int k = 0; k < length; k++) {
                if (letters[k] != with.letters[k]) {
                    return false;
                }
            }
            return true;
        }

        /** Whether this row from a place on and another one are alike as far as both go. */
        boolean agrees(int from, Row with) {
            for (int k = 0; k < with.length && from + k < length; k++) {
                if (at(from + k) != with.at(k)) {
                    return false;
                }
            }
            return true;
        }

        boolean holds(int from, Row part) {
            return from + part.length <= length && agrees(from, part);
        }

        /** Takes the letters of a word of a call; false if it is none. */
        boolean takeWord(long word) {
            drop();
            for (int shift = 56; shift >= 0; shift -= 8) {
                int sign = (int) (word >>> shift) & 255;
                if (sign == 0 && length == 0) {
                    continue;
                }
                if (sign < 'a' || sign > 'h') {
                    return false;
                }
                add(sign - 'a');
            }
            return length > 0;
        }

        long block(int b) {
            long packed = 1;
            int from = b * IN_BLOCK;
            for (int k = from; k < from + IN_BLOCK && k < length; k++) {
                packed = packed << 3 | at(k);
            }
            return packed;
        }

        void addBlock(long packed, int count) {
            for (int k = count - 1; k >= 0; k--) {
                add((int) (packed >>> (3 * k)) & 7);
            }
        }

        /** The fewest letters put in, left out or changed on the way to another row; costs is room for the reckoning. */
        int changesTo(Row goal, int[] costs) {
            if (goal.length >= costs.length) {
                return NONE;
            }
            for (int k = 0; k <= goal.length; k++) {
                costs[k] = k;
            }
            for (int i = 0; i < length; i++) {
                int slant = costs[0];
                costs[0] = i + 1;
                for (int k = 0; k < goal.length; k++) {
                    int kept = slant + (at(i) == goal.at(k) ? 0 : 1);
                    slant = costs[k + 1];
                    costs[k + 1] = Math.min(kept, Math.min(slant, costs[k]) + 1);
                }
            }
            return costs[goal.length];
        }
    }

    /** One rule; what may stand ahead of its match and behind is told as bits. */
    private static final class Rule {
        private final Row match = new Row(MOST_MATCH);
        private final Row outcome = new Row(MOST_OUTCOME);
        private int ahead;
        private int behind;

        void drop() {
            match.drop();
            outcome.drop();
            ahead = ANYTHING;
            behind = ANYTHING;
        }

        Row taken(boolean turned) {
            return turned ? outcome : match;
        }

        Row given(boolean turned) {
            return turned ? match : outcome;
        }
    }

    /** The beginnings of what the rules of a pass take, straight or turned, as states that a letter leads on from. */
    private static final class Machine {
        private static final int MOST_STATES = 1 + MOST_RULES * MOST_OUTCOME;

        private final int[] steps = new int[MOST_STATES * ALPHABET];
        private final int[] depths = new int[MOST_STATES];
        private final int[] endings = new int[MOST_STATES];
        /** By what stands ahead or behind (a letter, or the edge): the rules that bear it, as bits. */
        private final int[] bearAhead = new int[EDGE + 1];
        private final int[] bearBehind = new int[EDGE + 1];
        /** Of each rule the state that its beginning has come to. */
        private final int[] reached = new int[MOST_RULES];
        private int states;

        boolean has(int state) {
            return state >= 0 && state < states && state < MOST_STATES;
        }

        int step(int state, int letter) {
            return has(state) && letter >= 0 && letter < ALPHABET ? steps[state * ALPHABET + letter] : NOTHING;
        }

        int depthOf(int state) {
            return has(state) ? depths[state] : NONE;
        }

        int endingAt(int state) {
            return has(state) ? endings[state] : 0;
        }

        void build(Pass pass, boolean turned) {
            Arrays.fill(steps, NOTHING);
            Arrays.fill(endings, 0);
            Arrays.fill(reached, 0);
            bearSides(pass);
            depths[0] = 0;
            states = 1;
            // New states come behind the old ones by the order of their letters, so the numbers are in order by themselves.
            for (int state = 0; state < states && state < MOST_STATES; state++) {
                for (int letter = 0; letter < ALPHABET; letter++) {
                    leadOn(pass, turned, state, letter);
                }
            }
        }

        private void bearSides(Pass pass) {
            for (int side = 0; side <= EDGE; side++) {
                bearAhead[side] = 0;
                bearBehind[side] = 0;
                for (int i = 0; i < pass.ruleCount; i++) {
                    Rule rule = pass.ruleAt(i);
                    if (rule != null) {
                        bearAhead[side] |= (rule.ahead >> side & 1) << i;
                        bearBehind[side] |= (rule.behind >> side & 1) << i;
                    }
                }
            }
        }

        private void leadOn(Pass pass, boolean turned, int state, int letter) {
            int depth = depths[state];
            int next = NOTHING;
            for (int i = 0; i < pass.ruleCount && i < MOST_RULES; i++) {
                Rule rule = pass.ruleAt(i);
                if (rule == null || reached[i] != state || rule.taken(turned).at(depth) != letter) {
                    continue;
                }
                if (next == NOTHING) {
                    if (states >= MOST_STATES) {
                        return;
                    }
                    next = states;
                    depths[next] = depth + 1;
                    steps[state * ALPHABET + letter] = next;
                    states++;
                }
                reached[i] = next;
                if (rule.taken(turned).length == depth + 1) {
                    endings[next] |= 1 << i;
                }
            }
        }

        /** The rule, of those that serve, that serves at a place; NONE without one. */
        int ruleFor(Row row, int place, int serving) {
            int may = serving & bearAhead[row.beside(place - 1)];
            int found = NONE;
            int state = 0;
            for (int k = place; k < row.length && may != 0; k++) {
                int step = state * ALPHABET + row.at(k);
                state = step < 0 || step >= steps.length ? NOTHING : steps[step];
                if (state < 0 || state >= MOST_STATES) {
                    break;
                }
                int here = endings[state] & may & bearBehind[row.beside(k + 1)];
                if (here != 0) {
                    found = Integer.bitCount((here & -here) - 1);
                }
            }
            return found;
        }
    }

    private static final class Pass {
        private final Rule[] rules = new Rule[MOST_RULES];
        private final Machine straight = new Machine();
        private final Machine backward = new Machine();
        private int ruleCount;
        private boolean again;
        private int asideBits;

        Pass() {
            for (int i = 0; i < MOST_RULES; i++) {
                rules[i] = new Rule();
            }
        }

        void drop() {
            ruleCount = 0;
            again = false;
            asideBits = 0;
        }

        /** A rule more, empty yet; null if there is no room. */
        Rule addRule() {
            if (ruleCount >= MOST_RULES) {
                return null;
            }
            Rule rule = rules[ruleCount];
            if (rule != null) {
                rule.drop();
                ruleCount++;
            }
            return rule;
        }

        Rule ruleAt(int i) {
            return i < 0 || i >= ruleCount || i >= MOST_RULES ? null : rules[i];
        }

        int serving() {
            return bitsBelow(ruleCount) & ~asideBits;
        }

        boolean serves(int i) {
            return (serving() >> i & 1) == 1;
        }

        /** Whether a letter never comes out as itself, since a rule that bears anything beside it takes it alone. */
        boolean alwaysTakes(int letter) {
            for (int i = 0; i < ruleCount; i++) {
                Rule rule = ruleAt(i);
                if (rule != null && serves(i) && rule.match.length == 1 && rule.match.at(0) == letter
                        && rule.ahead == ANYTHING && rule.behind == ANYTHING) {
                    return true;
                }
            }
            return false;
        }
    }

    private static final class Script {
        private final long[] kindNames = new long[MOST_KINDS];
        private final int[] kindLetters = new int[MOST_KINDS];
        private final Pass[] passes = new Pass[MOST_PASSES];
        private int sourceLetters;
        private int kindCount;
        private int passCount;

        Script() {
            for (int p = 0; p < MOST_PASSES; p++) {
                passes[p] = new Pass();
            }
        }

        void drop() {
            sourceLetters = 0;
            kindCount = 0;
            passCount = 0;
        }

        void addKind(long name, int letters) {
            if (kindCount < MOST_KINDS) {
                kindNames[kindCount] = name;
                kindLetters[kindCount] = letters;
                kindCount++;
            }
        }

        /** The letters of a kind as bits; NONE if none has the name. */
        int lettersOfKind(long name) {
            for (int i = 0; i < kindCount && i < MOST_KINDS; i++) {
                if (kindNames[i] == name) {
                    return kindLetters[i];
                }
            }
            return NONE;
        }

        /** A pass more, empty yet; null if there is no room. */
        Pass addPass() {
            if (passCount >= MOST_PASSES) {
                return null;
            }
            Pass pass = passes[passCount];
            if (pass != null) {
                pass.drop();
                passCount++;
            }
            return pass;
        }

        Pass passAt(int p) {
            return p < 0 || p >= passCount || p >= MOST_PASSES ? null : passes[p];
        }

        Rule ruleAt(int p, int i) {
            Pass pass = passAt(p);
            return pass == null ? null : pass.ruleAt(i);
        }

        int ruleCount() {
            int all = 0;
            for (int p = 0; p < passCount; p++) {
                Pass pass = passAt(p);
                all += pass == null ? 0 : pass.ruleCount;
            }
            return all;
        }

        int asideCount() {
            int all = 0;
            for (int p = 0; p < passCount; p++) {
                Pass pass = passAt(p);
                all += pass == null ? 0 : Integer.bitCount(pass.asideBits);
            }
            return all;
        }

        boolean isAside(int p, int i) {
            Pass pass = passAt(p);
            return pass != null && pass.ruleAt(i) != null && !pass.serves(i);
        }

        /** A rule that serves is put aside, one that is aside serves again. */
        void turnAside(int p, int i) {
            Pass pass = passAt(p);
            if (pass != null && pass.ruleAt(i) != null) {
                pass.asideBits ^= 1 << i;
            }
        }

        void buildMachines() {
            for (int p = 0; p < passCount; p++) {
                Pass pass = passAt(p);
                if (pass != null) {
                    pass.straight.build(pass, false);
                    pass.backward.build(pass, true);
                }
            }
        }
    }

    /** Reads the text of a script from the left, a token at a time, up to its first fault. */
    private static final class Reader {
        private static final int FORM = 1;
        private static final int BOUNDS = 2;
        private static final int AGAIN = 3;
        private static final int NO_KIND = 4;
        private static final int MANY = 5;
        private static final int LACKS = 6;

        private static final int END = 0;
        private static final int NAME = 1;
        private static final int WHOLE = 2;
        private static final int MARK = 3;
        private static final int BROKEN = 4;

        private int[] text = new int[0];
        private int end;
        private int place;
        private Script script;
        private Pass pass;
        private int sort;
        private int start;
        private int faultPlace;

        /** The fault of the first n bytes; without one (0) they are the script that is handed in. */
        int read(int[] tape, int n, Script into) {
            text = tape;
            end = Math.max(0, Math.min(n, text.length));
            place = 0;
            script = into;
            pass = null;
            script.drop();
            next();
            int fault = line(true);
            for (int k = 0; k < end && fault == 0 && sort == MARK; k++) {
                next();
                fault = line(false);
            }
            if (fault == 0 && sort != END) {
                fault = FORM;
            }
            if (fault == 0 && script.ruleCount() == 0) {
                fault = LACKS;
            }
            faultPlace = start;
            if (fault == 0) {
                script.buildMachines();
            }
            return fault;
        }

        private int line(boolean first) {
            if (is("script")) {
                return first ? scriptLine() : AGAIN;
            }
            if (is("kind")) {
                return first ? LACKS : kindLine();
            }
            if (is("pass")) {
                return first ? LACKS : passLine();
            }
            if (is("rule")) {
                return first ? LACKS : ruleLine();
            }
            return FORM;
        }

        private int scriptLine() {
            next();
            if (!is("letters")) {
                return FORM;
            }
            next();
            if (sort != WHOLE) {
                return FORM;
            }
            int letters = byteAt(start) - '0';
            if (letters < 2 || letters > 4) {
                return BOUNDS;
            }
            script.sourceLetters = letters;
            next();
            return 0;
        }

        private int kindLine() {
            if (script.kindCount >= MOST_KINDS) {
                return MANY;
            }
            next();
            if (sort != NAME || place - start < 2 || isKept()) {
                return FORM;
            }
            long name = nameHere();
            if (script.lettersOfKind(name) != NONE) {
                return AGAIN;
            }
            next();
            if (!is("of")) {
                return FORM;
            }
            next();
            if (!areLetters(MOST_NAME)) {
                return FORM;
            }
            int letters = letterBits();
            if (Integer.bitCount(letters) != place - start) {
                return AGAIN;
            }
            script.addKind(name, letters);
            next();
            return 0;
        }

        private int passLine() {
            pass = script.addPass();
            if (pass == null) {
                return MANY;
            }
            next();
            if (is("again")) {
                pass.again = true;
                next();
            }
            return 0;
        }

        private int ruleLine() {
            if (pass == null) {
                return LACKS;
            }
            Rule rule = pass.addRule();
            if (rule == null) {
                return MANY;
            }
            next();
            if (is("after")) {
                next();
                rule.ahead = sideBits();
                if (rule.ahead < 0) {
                    return -rule.ahead;
                }
            }
            int fault = lettersInto(rule.match, MOST_MATCH);
            if (fault != 0) {
                return fault;
            }
            if (is("before")) {
                next();
                rule.behind = sideBits();
                if (rule.behind < 0) {
                    return -rule.behind;
                }
            }
            return outcomeFault(rule);
        }

        private int outcomeFault(Rule rule) {
            if (!is("to")) {
                return FORM;
            }
            next();
            if (is("none")) {
                next();
                return 0;
            }
            return lettersInto(rule.outcome, MOST_OUTCOME);
        }

        /** What a side lets stand there, as bits; less than 0: its fault, turned below 0. */
        private int sideBits() {
            int bits;
            if (is("edge")) {
                bits = 1 << EDGE;
            } else if (areLetters(1)) {
                bits = letterBits();
            } else if (sort != NAME || place - start == 1 || isKept()) {
                return -FORM;
            } else {
                bits = script.lettersOfKind(nameHere());
            }
            if (bits == NONE) {
                return -NO_KIND;
            }
            next();
            return bits;
        }

        private int lettersInto(Row row, int most) {
            if (!areLetters(most)) {
                return FORM;
            }
            for (int k = start; k < place; k++) {
                row.add(byteAt(k) - 'a');
            }
            next();
            return 0;
        }

        private void next() {
            while (place < end && text[place] == ' ') {
                place++;
            }
            start = place;
            if (place >= end) {
                sort = END;
                return;
            }
            sort = sortOf(text[place]);
            place++;
            if (sort != NAME && sort != WHOLE) {
                return;
            }
            // Small letters, or digits, that stand together are one token or none: they are never parted.
            while (place < end && sortOf(text[place]) == sort) {
                place++;
            }
            if (place - start > (sort == NAME ? MOST_NAME : 1)) {
                sort = BROKEN;
            }
        }

        private static int sortOf(int sign) {
            if (sign >= 'a' && sign <= 'z') {
                return NAME;
            }
            if (sign >= '0' && sign <= '9') {
                return WHOLE;
            }
            return sign == ';' ? MARK : BROKEN;
        }

        private int byteAt(int k) {
            return k < 0 || k >= end || k >= text.length ? 0 : text[k];
        }

        private boolean is(String name) {
            if (sort != NAME || place - start != name.length()) {
                return false;
            }
            for (int k = 0; k < name.length(); k++) {
                if (byteAt(start + k) != name.charAt(k)) {
                    return false;
                }
            }
            return true;
        }

        /** Names that no kind may have. */
        private boolean isKept() {
            return is("script") || is("kind") || is("pass") || is("rule") || is("letters") || is("of")
                    || is("again") || is("after") || is("before") || is("to") || is("none") || is("edge");
        }

        private boolean areLetters(int most) {
            if (sort != NAME || place - start > most) {
                return false;
            }
            for (int k = start; k < place; k++) {
                if (byteAt(k) > 'h') {
                    return false;
                }
            }
            return true;
        }

        private int letterBits() {
            int bits = 0;
            for (int k = start; k < place; k++) {
                bits |= 1 << (byteAt(k) - 'a');
            }
            return bits;
        }

        /** A name has 7 letters at most, so that a long tells it apart from every other one. */
        private long nameHere() {
            long name = 0;
            for (int k = start; k < place; k++) {
                name = name << 8 | byteAt(k);
            }
            return name;
        }
    }

    /** Brings a row of letters through the passes and keeps what there was on the way. */
    private static final class Carrier {
        private final Row[] behindPasses = new Row[MOST_PASSES];
        private final int[] roundCounts = new int[MOST_PASSES];
        private final int[] servedCounts = new int[MOST_PASSES * MOST_RULES];
        private Row came = new Row(MOST_OUT);
        private Row going = new Row(MOST_OUT);
        /** The rules that served, also in what failed: pass times 8 and the number, as bits. */
        private int servedBits;

        Carrier() {
            for (int p = 0; p < MOST_PASSES; p++) {
                behindPasses[p] = new Row(MOST_OUT);
            }
        }

        Row behindPass(int p) {
            return p < 0 || p >= MOST_PASSES ? null : behindPasses[p];
        }

        int roundsOf(int p) {
            return p < 0 || p >= MOST_PASSES ? 0 : roundCounts[p];
        }

        int servedBy(int p, int i) {
            return p < 0 || p >= MOST_PASSES || i < 0 || i >= MOST_RULES ? 0 : servedCounts[p * MOST_RULES + i];
        }

        /** 0, and what came out is kept; or the trouble by which it fails. */
        int bring(Script script, Row row, boolean turned) {
            Arrays.fill(servedCounts, 0);
            servedBits = 0;
            came.copy(row);
            for (int k = 0; k < script.passCount; k++) {
                int p = turned ? script.passCount - 1 - k : k;
                Pass pass = script.passAt(p);
                Row behind = behindPass(p);
                if (pass == null || behind == null) {
                    continue;
                }
                int trouble = throughPass(pass, p, turned);
                if (trouble != 0) {
                    return trouble;
                }
                behind.copy(came);
            }
            return 0;
        }

        private int throughPass(Pass pass, int p, boolean turned) {
            int most = pass.again ? MOST_ROUNDS : 1;
            for (int round = 1; round <= most; round++) {
                roundCounts[p] = round;
                if (!throughRound(pass, p, turned)) {
                    return TOO_LONG;
                }
                boolean same = came.same(going);
                Row old = came;
                came = going;
                going = old;
                if (same || !pass.again) {
                    return 0;
                }
            }
            return ENDLESS;
        }

        private boolean throughRound(Pass pass, int p, boolean turned) {
            Machine machine = turned ? pass.backward : pass.straight;
            int serving = pass.serving();
            going.drop();
            int taken = 1;
            for (int k = 0; k < came.length; k += taken) {
                int i = machine.ruleFor(came, k, serving);
                Rule rule = pass.ruleAt(i);
                boolean fits;
                if (rule == null) {
                    taken = 1;
                    fits = going.add(came.at(k));
                } else {
                    noteServed(p, i);
                    taken = Math.max(1, rule.taken(turned).length);
                    fits = going.addAll(rule.given(turned));
                }
                if (!fits) {
                    return false;
                }
            }
            return true;
        }

        private void noteServed(int p, int i) {
            int at = p * MOST_RULES + i;
            if (at >= 0 && at < servedCounts.length) {
                servedCounts[at]++;
                servedBits |= 1 << at;
            }
        }
    }

    /** What may come out at one place of a pass, and the rows of it that make some letters. */
    private static final class Pieces {
        private static final int MOST_PIECES = MOST_RULES + ALPHABET;
        private static final int FAR = 1_000_000;

        private final int[] whats = new int[MOST_PIECES];
        private final Row[] made = new Row[MOST_PIECES];
        private final Row[] singles = new Row[ALPHABET];
        /** By piece and place in it: the fewest letters of two unlike rows of pieces, one of which is ahead by just that end. */
        private final int[] totals = new int[MOST_PIECES * MOST_OUTCOME];
        private final int[] ways = new int[MOST_WORD + 1];
        private int count;
        private int fewest;
        private boolean nearer;

        Pieces() {
            for (int letter = 0; letter < ALPHABET; letter++) {
                Row single = new Row(1);
                single.add(letter);
                singles[letter] = single;
            }
        }

        void gather(Pass pass) {
            count = 0;
            for (int i = 0; i < pass.ruleCount; i++) {
                Rule rule = pass.ruleAt(i);
                if (rule != null && pass.serves(i)) {
                    put(i, rule.outcome);
                }
            }
            for (int letter = 0; letter < ALPHABET; letter++) {
                if (!pass.alwaysTakes(letter)) {
                    put(MOST_RULES + letter, singles[letter]);
                }
            }
        }

        private void put(int what, Row letters) {
            if (count < MOST_PIECES) {
                whats[count] = what;
                made[count] = letters;
                count++;
            }
        }

        int whatOf(int i) {
            return i < 0 || i >= count || i >= MOST_PIECES ? NONE : whats[i];
        }

        private Row lettersOf(int i) {
            return i < 0 || i >= count || i >= MOST_PIECES ? null : made[i];
        }

        /** The fewest letters that two unlike rows of pieces make; NOTHING if no two do. */
        int fewestReadTwice() {
            Arrays.fill(totals, FAR);
            fewest = FAR;
            for (int i = 0; i < count; i++) {
                Row ahead = lettersOf(i);
                if (ahead == null || ahead.length == 0) {
                    return 0;
                }
                for (int k = 0; k < count; k++) {
                    if (k != i) {
                        follow(i, 0, ahead.length, k);
                    }
                }
            }
            nearer = true;
            // A way that is the shortest comes to no end twice, so there are no more turns than ends.
            for (int turn = 0; turn < totals.length && nearer; turn++) {
                nearer = false;
                followAll();
            }
            return fewest == FAR ? NOTHING : fewest;
        }

        private void followAll() {
            for (int end = 0; end < totals.length; end++) {
                if (totals[end] < fewest) {
                    for (int k = 0; k < count; k++) {
                        follow(end / MOST_OUTCOME, end % MOST_OUTCOME, totals[end], k);
                    }
                }
            }
        }

        /** One row is ahead by piece i from a place on; piece k comes behind the other row. */
        private void follow(int i, int from, int total, int k) {
            Row ahead = lettersOf(i);
            Row more = lettersOf(k);
            if (ahead == null || more == null || !ahead.agrees(from, more)) {
                return;
            }
            int rest = ahead.length - from;
            if (more.length == rest) {
                fewest = Math.min(fewest, total);
            } else if (more.length < rest) {
                reach(i, from + more.length, total);
            } else {
                reach(k, rest, total + more.length - rest);
            }
        }

        private void reach(int i, int from, int total) {
            int end = i * MOST_OUTCOME + from;
            if (end >= 0 && end < totals.length && total < totals[end]) {
                totals[end] = total;
                nearer = true;
            }
        }

        int countReadings(Row letters) {
            if (letters.length >= ways.length) {
                return 0;
            }
            ways[letters.length] = 1;
            for (int from = letters.length - 1; from >= 0; from--) {
                ways[from] = 0;
                for (int k = 0; k < count; k++) {
                    ways[from] += waysBehind(letters, from, k);
                }
            }
            return ways[0];
        }

        /** In how many ways letters are read on behind a piece that is laid at a place. */
        private int waysBehind(Row letters, int from, int k) {
            Row laid = lettersOf(k);
            if (laid == null || laid.length == 0 || !letters.holds(from, laid)) {
                return 0;
            }
            int behind = from + laid.length;
            return behind < 0 || behind >= ways.length ? 0 : ways[behind];
        }

        /** What the i-th piece of the first reading is of; NONE if there is none such. */
        int firstReadingAt(Row letters, int i) {
            if (i < 0 || countReadings(letters) == 0) {
                return NONE;
            }
            int from = 0;
            for (int k = 0; k <= i && from < letters.length; k++) {
                int first = firstPieceAt(letters, from);
                Row laid = lettersOf(first);
                if (laid == null) {
                    return NONE;
                }
                if (k == i) {
                    return whatOf(first);
                }
                from += laid.length;
            }
            return NONE;
        }

        private int firstPieceAt(Row letters, int from) {
            for (int k = 0; k < count; k++) {
                if (waysBehind(letters, from, k) > 0) {
                    return k;
                }
            }
            return NONE;
        }
    }

    /** What came out of the words, by their places in order; finds at once which earlier word came out the same. */
    private static final class Outcomes {
        private static final int BLOCKS = 3;
        private static final int SEATS = 2048;

        private final int[] lengths = new int[MOST_WORDS];
        private final long[] blocks = new long[MOST_WORDS * BLOCKS];
        /** By what came out: 1 and the place of the first word that did so; 0 for a free seat. */
        private final int[] seats = new int[SEATS];

        void forget() {
            Arrays.fill(seats, 0);
        }

        /** Less than 0 for a word that fails: its trouble, turned below 0. */
        int lengthOf(int i) {
            return i < 0 || i >= MOST_WORDS ? -TOO_LONG : lengths[i];
        }

        private long blockOf(int i, int b) {
            return i < 0 || i >= MOST_WORDS || b < 0 || b >= BLOCKS ? 0 : blocks[i * BLOCKS + b];
        }

        /** Keeps how a word came out, and answers the first one that came out so; NONE if there is none. */
        int put(int i, int trouble, Row came) {
            if (i < 0 || i >= MOST_WORDS) {
                return NONE;
            }
            if (trouble != 0) {
                lengths[i] = -trouble;
                return NONE;
            }
            lengths[i] = came.length;
            for (int b = 0; b < BLOCKS; b++) {
                blocks[i * BLOCKS + b] = came.block(b);
            }
            return seat(i);
        }

        int putSame(int i, Outcomes from) {
            if (i < 0 || i >= MOST_WORDS) {
                return NONE;
            }
            lengths[i] = from.lengthOf(i);
            for (int b = 0; b < BLOCKS; b++) {
                blocks[i * BLOCKS + b] = from.blockOf(i, b);
            }
            return lengths[i] < 0 ? NONE : seat(i);
        }

        private int seat(int i) {
            long mixed = (blockOf(i, 0) * 31 + blockOf(i, 1)) * 31 + blockOf(i, 2);
            int from = (int) (mixed * 0x9E3779B97F4A7C15L >>> 53);
            for (int k = 0; k < SEATS; k++) {
                int at = (from + k) & (SEATS - 1);
                if (seats[at] == 0) {
                    seats[at] = i + 1;
                    return NONE;
                }
                if (sameBlocks(seats[at] - 1, i)) {
                    return seats[at] - 1;
                }
            }
            return NONE;
        }

        private boolean sameBlocks(int i, int k) {
            return blockOf(i, 0) == blockOf(k, 0) && blockOf(i, 1) == blockOf(k, 1) && blockOf(i, 2) == blockOf(k, 2);
        }

        boolean cameAs(int i, Row letters) {
            if (lengthOf(i) != letters.length) {
                return false;
            }
            for (int b = 0; b < BLOCKS; b++) {
                if (blockOf(i, b) != letters.block(b)) {
                    return false;
                }
            }
            return true;
        }

        void into(int i, Row row) {
            row.drop();
            for (int b = 0; b < BLOCKS; b++) {
                int rest = lengthOf(i) - b * Row.IN_BLOCK;
                row.addBlock(blockOf(i, b), Math.min(rest, Row.IN_BLOCK));
            }
        }
    }

    /** All words up to some length and how they come out, kept till a rule or the script changes. */
    private static final class Census {
        private static final int UNKNOWN = -3;

        private final Outcomes now = new Outcomes();
        private final Outcomes trial = new Outcomes();
        private final Carrier carrier = new Carrier();
        private final Row word = new Row(MOST_WORD);
        private final Row came = new Row(MOST_OUT);
        private final int[] served = new int[MOST_WORDS];
        /** The first word that is alike, for one that is doubled; NONE for others. */
        private final int[] twins = new int[MOST_WORDS];
        private final boolean[] back = new boolean[MOST_WORDS];
        private final int[] worstKnown = new int[MOST_SPELLED + 1];
        private Script script;
        private int known;
        private int backKnown;

        Census() {
            Arrays.fill(worstKnown, UNKNOWN);
        }

        void forget() {
            now.forget();
            Arrays.fill(worstKnown, UNKNOWN);
            known = 0;
            backKnown = 0;
        }

        /** Words up to n are the first of those up to more than n, so that what is known already stays. */
        void learn(Script told, int n) {
            script = told;
            int count = count(n);
            for (int i = known; i < count; i++) {
                word.takeWord(spelled(i));
                int trouble = carrier.bring(told, word, false);
                twins[i] = now.put(i, trouble, carrier.came);
                served[i] = carrier.servedBits;
            }
            known = Math.max(known, count);
        }

        private int count(int n) {
            return script == null ? 0 : Math.min(MOST_WORDS, countUpTo(script.sourceLetters, n));
        }

        /** The i-th word in order: the words one letter longer follow those that they begin with in the same order. */
        long spelled(int i) {
            if (script == null || script.sourceLetters < 1) {
                return NONE;
            }
            long letters = 0;
            int rest = i;
            for (int k = 0; k < MOST_SPELLED && rest >= 0; k++) {
                letters |= (long) ('a' + rest % script.sourceLetters) << (8 * k);
                rest = rest / script.sourceLetters - 1;
            }
            return letters;
        }

        int lengthOf(int i) {
            return now.lengthOf(i);
        }

        int firstAlike(int i) {
            return i < 0 || i >= MOST_WORDS ? NONE : twins[i];
        }

        int firstDoubled(int n) {
            int count = count(n);
            for (int i = 0; i < count; i++) {
                if (twins[i] != NONE) {
                    return i;
                }
            }
            return NONE;
        }

        int countDoubled(int n) {
            int count = count(n);
            int all = 0;
            for (int i = 0; i < count; i++) {
                all += twins[i] != NONE ? 1 : 0;
            }
            return all;
        }

        int countFailed(int n, int trouble) {
            int count = count(n);
            int all = 0;
            for (int i = 0; i < count; i++) {
                all += lengthOf(i) == -trouble ? 1 : 0;
            }
            return all;
        }

        int firstFailed(int n, int trouble) {
            int count = count(n);
            for (int i = 0; i < count; i++) {
                if (lengthOf(i) == -trouble) {
                    return i;
                }
            }
            return NONE;
        }

        int countSources(int n, Row letters) {
            int count = count(n);
            int all = 0;
            for (int i = 0; i < count; i++) {
                all += now.cameAs(i, letters) ? 1 : 0;
            }
            return all;
        }

        int sourceAt(int n, Row letters, int wanted) {
            int count = count(n);
            int found = 0;
            for (int i = 0; i < count; i++) {
                if (now.cameAs(i, letters)) {
                    if (found == wanted) {
                        return i;
                    }
                    found++;
                }
            }
            return NONE;
        }

        int firstLongest(int n) {
            int count = count(n);
            int found = NONE;
            for (int i = 0; i < count; i++) {
                if (lengthOf(i) >= 0 && (found == NONE || lengthOf(i) > lengthOf(found))) {
                    found = i;
                }
            }
            return found;
        }

        /** The rules of a pass that serve for some word that doesn't fail, as bits. */
        int servingIn(int p, int n) {
            int count = count(n);
            int all = 0;
            for (int i = 0; i < count; i++) {
                if (lengthOf(i) >= 0) {
                    all |= served[i];
                }
            }
            return all >> (p * MOST_RULES) & bitsBelow(MOST_RULES);
        }

        int countBack(int n) {
            int count = count(n);
            int all = 0;
            for (int i = 0; i < count; i++) {
                all += back[i] ? 1 : 0;
            }
            return all;
        }

        int firstLost(int n) {
            int count = count(n);
            for (int i = 0; i < count; i++) {
                if (lengthOf(i) >= 0 && !back[i]) {
                    return i;
                }
            }
            return NONE;
        }

        void learnBack(int n) {
            int count = count(n);
            for (int i = backKnown; i < count; i++) {
                back[i] = lengthOf(i) >= 0 && comesBack(i);
            }
            backKnown = Math.max(backKnown, count);
        }

        private boolean comesBack(int i) {
            if (script == null) {
                return false;
            }
            now.into(i, came);
            word.takeWord(spelled(i));
            return carrier.bring(script, came, true) == 0 && carrier.came.same(word);
        }

        int worstRule(int n) {
            if (script == null || n < 0 || n >= worstKnown.length) {
                return NOTHING;
            }
            if (worstKnown[n] != UNKNOWN) {
                return worstKnown[n];
            }
            int fewest = countDoubled(n);
            int found = NOTHING;
            for (int at = 0; at < MOST_PASSES * MOST_RULES && fewest > 0; at++) {
                int p = at / MOST_RULES;
                int i = at % MOST_RULES;
                if (script.ruleAt(p, i) == null || script.isAside(p, i)) {
                    continue;
                }
                script.turnAside(p, i);
                int left = doubledWithout(at, count(n), fewest);
                script.turnAside(p, i);
                if (left < fewest) {
                    fewest = left;
                    found = 10 * p + i;
                }
            }
            worstKnown[n] = found;
            return found;
        }

        /** How many of the first words are doubled without one rule, which is aside now; what is no fewer than enough is not counted on. */
        private int doubledWithout(int rule, int count, int enough) {
            int all = 0;
            trial.forget();
            for (int k = 0; k < count && all < enough; k++) {
                int twin;
                if ((served[k] >> rule & 1) == 0) {
                    // It comes out as it did: the rule never served for it.
                    twin = trial.putSame(k, now);
                } else {
                    word.takeWord(spelled(k));
                    twin = trial.put(k, carrier.bring(script, word, false), carrier.came);
                }
                all += twin != NONE ? 1 : 0;
            }
            return all;
        }
    }

    /** The latest acts that can be undone: each turned one rule, so that turning it again undoes it. */
    private static final class Acts {
        private final int[] kept = new int[MOST_ACTS];
        private int count;

        void drop() {
            count = 0;
        }

        void keep(int p, int i) {
            if (count >= MOST_ACTS) {
                System.arraycopy(kept, 1, kept, 0, MOST_ACTS - 1);
                count = MOST_ACTS - 1;
            }
            kept[count] = p * MOST_RULES + i;
            count++;
        }

        int takeLatest() {
            if (count <= 0 || count > MOST_ACTS) {
                return NONE;
            }
            count--;
            return kept[count];
        }
    }
}
