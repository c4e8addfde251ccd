/**
 * A machine that rewrites collections of objects inside nested membranes in rounds, with one fixed
 * way to choose the rules, and a judge that finds what all ways lead to.
 */
public final class MembraneRounds {
    public static final int NONE = -1;
    public static final int LIMIT = -2;

    private static final int KINDS = 5;
    private static final int HANDFULS = 1024;
    private static final int LABELS = 4;
    private static final int MEMBRANES = 6;
    private static final int SKIN = 0;
    /** A place behind the membranes that stands as the skin's parent: so out needs no case of its own. */
    private static final int OUTSIDE = MEMBRANES;
    private static final int RULES = 6;
    private static final int MOST_OBJECTS = 12;
    private static final int MOST_OUTSIDE = 999;
    /** A use takes one object at least, and there is a kind that all uses of one rule take. */
    private static final int MOST_USES = MOST_OBJECTS;
    private static final int MOST_ROUNDS = 3;
    private static final int MOST_OUTCOMES = 40;
    private static final int MOST_CHOICES = 1000;

    private static final int WHAT_LABEL = 5;
    private static final int WHAT_PARENT = 6;
    private static final int WHAT_CHILDREN = 7;
    private static final int WHAT_OUTSIDE = 6;

    private final RuleBook book = new RuleBook();
    private final Chooser chooser = new Chooser();
    private final Worker worker = new Worker();
    private final Judge judge = new Judge();
    private final Scribe scribe = new Scribe();
    private final int[] chosen = new int[MEMBRANES];
    private Configuration now = new Configuration();
    private Configuration trial = new Configuration();

    public MembraneRounds() {
        now.reset(0);
    }

    public void clear(int label) throws IllegalArgumentException {
        checkLabel(label);
        now.reset(label);
        book.count = 0;
        judge.count = 0;
    }

    public int membrane(int parent, int label)
            throws IndexOutOfBoundsException, IllegalArgumentException, IllegalStateException {
        checkMembrane(parent);
        checkLabel(label);
        int number = now.leastFree();
        if (number == NONE) {
            throw new IllegalStateException("all membranes are there");
        }
        now.open(number, parent, label, 0L);
        return number;
    }

    public void put(int membrane, int handful)
            throws IndexOutOfBoundsException, IllegalArgumentException, IllegalStateException {
        checkMembrane(membrane);
        checkHandful(handful);
        long heap = now.heaps[membrane] + Heap.ofHandful(handful);
        if (!Heap.within(heap, Heap.FULL_MEMBRANE)) {
            throw new IllegalStateException("more than 12 of a kind");
        }
        now.heaps[membrane] = heap;
    }

    public int rule(int label, int left, int here, int out)
            throws IllegalArgumentException, IllegalStateException {
        checkLabel(label);
        checkHandful(left);
        checkHandful(here);
        checkHandful(out);
        checkNotEmpty(left);
        if (book.count == RULES) {
            throw new IllegalStateException("all rules are there");
        }
        return book.add(label, Heap.ofHandful(left), Heap.ofHandful(here), Heap.ofHandful(out));
    }

    public void into(int rule, int label, int handful)
            throws IndexOutOfBoundsException, IllegalArgumentException {
        checkRule(rule);
        checkLabel(label);
        checkHandful(handful);
        checkNotEmpty(handful);
        book.rules[rule].into = Heap.ofHandful(handful);
        book.rules[rule].intoLabel = label;
    }

    public void dissolve(int rule) throws IndexOutOfBoundsException, IllegalStateException {
        checkRule(rule);
        checkEndsNothing(rule);
        book.rules[rule].dissolves = true;
    }

    public void divide(int rule, int other)
            throws IndexOutOfBoundsException, IllegalArgumentException, IllegalStateException {
        checkRule(rule);
        checkHandful(other);
        checkEndsNothing(rule);
        book.rules[rule].divides = true;
        book.rules[rule].other = Heap.ofHandful(other);
    }

    public int round() throws IllegalStateException {
        int used = 0;
        for (int m = 0; m < MEMBRANES; m++) {
            chosen[m] = chooser.machineChoice(book, now, m);
            used += Choice.usesTogether(chosen[m]);
        }
        trial.copy(now);
        if (!worker.carryOut(book, trial, chosen)) {
            throw new IllegalStateException("too much");
        }
        Configuration old = now;
        now = trial;
        trial = old;
        return used;
    }

    public int uses(int membrane, int rule) throws IndexOutOfBoundsException {
        checkMembrane(membrane);
        checkRule(rule);
        return Choice.usesOf(chooser.machineChoice(book, now, membrane), rule);
    }

    public int choices(int membrane) throws IndexOutOfBoundsException {
        checkMembrane(membrane);
        return Math.min(chooser.count(book, now, membrane), MOST_CHOICES);
    }

    public int at(int membrane, int what) throws IndexOutOfBoundsException, IllegalArgumentException {
        checkMembrane(membrane);
        checkWhat(what, WHAT_CHILDREN);
        if (what == WHAT_LABEL) {
            return now.labels[membrane];
        }
        if (what == WHAT_PARENT) {
            return membrane == SKIN ? NONE : now.parents[membrane];
        }
        if (what == WHAT_CHILDREN) {
            return now.countChildren(membrane);
        }
        return Heap.count(now.heaps[membrane], what);
    }

    public boolean there(int membrane) {
        return now.has(membrane);
    }

    public int outside(int kind) throws IndexOutOfBoundsException {
        if (kind < 0 || kind >= KINDS) {
            throw new IndexOutOfBoundsException("no such kind");
        }
        return Heap.count(now.heaps[OUTSIDE], kind);
    }

    public int outcomes(int rounds) throws IllegalArgumentException {
        if (rounds < 0 || rounds > MOST_ROUNDS) {
            throw new IllegalArgumentException("no such number of rounds");
        }
        judge.begin(now);
        for (int i = 0; i < rounds; i++) {
            if (!judge.goOn(book, chooser, worker)) {
                return LIMIT;
            }
        }
        return judge.count;
    }

    public int outcome(int i, int m, int what) throws IndexOutOfBoundsException, IllegalArgumentException {
        checkOutcome(i);
        if (m < 0 || m >= MEMBRANES) {
            throw new IndexOutOfBoundsException("no such membrane");
        }
        checkWhat(what, WHAT_OUTSIDE + KINDS - 1);
        Configuration found = judge.found[i];
        if (what >= WHAT_OUTSIDE) {
            return Heap.count(found.heaps[OUTSIDE], what - WHAT_OUTSIDE);
        }
        if (what == WHAT_LABEL || !found.has(m)) {
            return found.labels[m];
        }
        return Heap.count(found.heaps[m], what);
    }

    public void adopt(int i) throws IndexOutOfBoundsException {
        checkOutcome(i);
        now.copy(judge.found[i]);
    }

    public int written(int i) {
        return scribe.character(now, i);
    }

    private void checkMembrane(int number) {
        if (!now.has(number)) {
            throw new IndexOutOfBoundsException("no such membrane");
        }
    }

    private void checkRule(int number) {
        if (number < 0 || number >= book.count) {
            throw new IndexOutOfBoundsException("no such rule");
        }
    }

    private void checkOutcome(int number) {
        if (number < 0 || number >= judge.count) {
            throw new IndexOutOfBoundsException("no such outcome");
        }
    }

    private static void checkLabel(int label) {
        if (label < 0 || label >= LABELS) {
            throw new IllegalArgumentException("no label");
        }
    }

    private static void checkHandful(int handful) {
        if (handful < 0 || handful >= HANDFULS) {
            throw new IllegalArgumentException("no handful");
        }
    }

    private static void checkNotEmpty(int handful) {
        if (handful == 0) {
            throw new IllegalArgumentException("an empty handful");
        }
    }

    private static void checkWhat(int what, int last) {
        if (what < 0 || what > last) {
            throw new IllegalArgumentException("nothing that can be asked for");
        }
    }

    private void checkEndsNothing(int rule) {
        if (book.rules[rule].isOnce()) {
            throw new IllegalStateException("the rule dissolves or divides");
        }
    }

    /**
     * Objects of all kinds in one long, 12 bits for each kind, so that they are added and compared
     * together. No kind runs over its bits: six membranes (new ones of the round among them) hold at
     * most 6 * 12 of it before, and at most 60 uses in each make at most 9 of it, so even all of a
     * round in one place is 3312; outside it is 999 + 180.
     */
    private static final class Heap {
        private static final int BITS = 12;
        private static final long FIELD = 0xFFFL;
        private static final long ONE_OF_EACH = 0x001001001001001L;
        private static final long TOP_BITS = 0x800L * ONE_OF_EACH;
        static final long FULL_MEMBRANE = MOST_OBJECTS * ONE_OF_EACH;
        static final long FULL_OUTSIDE = MOST_OUTSIDE * ONE_OF_EACH;

        static long ofHandful(int handful) {
            long heap = 0L;
            for (int kind = 0; kind < KINDS; kind++) {
                long objects = (handful >> (2 * kind)) & 3;
                heap |= objects << (BITS * kind);
            }
            return heap;
        }

        static int count(long heap, int kind) {
            return (int) ((heap >>> (BITS * kind)) & FIELD);
        }

        /** Whether a heap has all of a part; the top bits, which both leave free, show a lack. */
        static boolean holds(long heap, long part) {
            return (((heap | TOP_BITS) - part) & TOP_BITS) == TOP_BITS;
        }

        static boolean within(long heap, long most) {
            return (heap & TOP_BITS) == 0L && holds(most, heap);
        }

        /** All bits of the kinds that a heap has something of. */
        static long kindsOf(long heap) {
            long kinds = 0L;
            for (int kind = 0; kind < KINDS; kind++) {
                if (count(heap, kind) > 0) {
                    kinds |= FIELD << (BITS * kind);
                }
            }
            return kinds;
        }
    }

    /** A choice for one membrane in one int: 4 bits for each rule's uses, which are 12 at most. */
    private static final class Choice {
        private static final int BITS = 4;
        private static final int FIELD = 0xF;

        static int with(int choice, int rule, int uses) {
            return choice | (uses << (BITS * rule));
        }

        static int usesOf(int choice, int rule) {
            return (choice >> (BITS * rule)) & FIELD;
        }

        static int usesTogether(int choice) {
            int sum = 0;
            for (int rule = 0; rule < RULES; rule++) {
                sum += usesOf(choice, rule);
            }
            return sum;
        }
    }

    private static final class Rule {
        final int number;
        int label;
        long left;
        long leftKinds;
        long here;
        long out;
        /** Never empty when the rule makes something into a label. */
        long into;
        int intoLabel;
        boolean dissolves;
        boolean divides;
        long other;

        Rule(int number) {
            this.number = number;
        }

        /** Of such rules a membrane uses one, once. */
        boolean isOnce() {
            return dissolves || divides;
        }

        int mostUses(long rest, boolean onceIsSpent) {
            int most = isOnce() ? 1 : MOST_USES;
            if (onceIsSpent && isOnce()) {
                most = 0;
            }
            long needed = left;
            int uses = 0;
            while (uses < most && Heap.holds(rest, needed)) {
                uses++;
                needed += left;
            }
            return uses;
        }
    }

    private static final class RuleBook {
        final Rule[] rules = new Rule[RULES];
        int count;

        RuleBook() {
            for (int i = 0; i < RULES; i++) {
                rules[i] = new Rule(i);
            }
        }

        /** To be called while there is room for a rule. */
        int add(int label, long left, long here, long out) {
            Rule rule = rules[count];
            rule.label = label;
            rule.left = left;
            rule.leftKinds = Heap.kindsOf(left);
            rule.here = here;
            rule.out = out;
            rule.into = 0L;
            rule.intoLabel = NONE;
            rule.dissolves = false;
            rule.divides = false;
            rule.other = 0L;
            count++;
            return rule.number;
        }
    }

    /** A number that is not there has no label, no parent and no objects, so that equal means the same. */
    private static final class Configuration {
        final int[] labels = new int[MEMBRANES];
        final int[] parents = new int[MEMBRANES];
        final long[] heaps = new long[MEMBRANES + 1];

        void reset(int skinLabel) {
            for (int m = 0; m < MEMBRANES; m++) {
                close(m);
            }
            open(SKIN, OUTSIDE, skinLabel, 0L);
            heaps[OUTSIDE] = 0L;
        }

        void open(int m, int parent, int label, long heap) {
            labels[m] = label;
            parents[m] = parent;
            heaps[m] = heap;
        }

        void close(int m) {
            open(m, NONE, NONE, 0L);
        }

        void copy(Configuration other) {
            System.arraycopy(other.labels, 0, labels, 0, MEMBRANES);
            System.arraycopy(other.parents, 0, parents, 0, MEMBRANES);
            System.arraycopy(other.heaps, 0, heaps, 0, MEMBRANES + 1);
        }

        boolean isSame(Configuration other) {
            for (int m = 0; m < MEMBRANES; m++) {
                if (heaps[m] != other.heaps[m] || labels[m] != other.labels[m]
                        || parents[m] != other.parents[m]) {
                    return false;
                }
            }
            return heaps[OUTSIDE] == other.heaps[OUTSIDE];
        }

        boolean has(int m) {
            return m >= 0 && m < MEMBRANES && labels[m] != NONE;
        }

        int leastFree() {
            for (int m = 0; m < MEMBRANES; m++) {
                if (labels[m] == NONE) {
                    return m;
                }
            }
            return NONE;
        }

        int countChildren(int m) {
            int children = 0;
            for (int child = 0; child < MEMBRANES; child++) {
                if (parents[child] == m) {
                    children++;
                }
            }
            return children;
        }

        int firstChildWith(int m, int label) {
            for (int child = 0; child < MEMBRANES; child++) {
                if (parents[child] == m && labels[child] == label) {
                    return child;
                }
            }
            return NONE;
        }

        boolean isTooMuch() {
            for (int m = 0; m < MEMBRANES; m++) {
                if (!Heap.within(heaps[m], Heap.FULL_MEMBRANE)) {
                    return true;
                }
            }
            return !Heap.within(heaps[OUTSIDE], Heap.FULL_OUTSIDE);
        }
    }

    /** Finds the choices for membranes of a configuration. */
    private static final class Chooser {
        /**
         * While the choices together are at most 1000, those of all membranes are at most 1005 in a
         * row; then one membrane's may come behind that are one too many.
         */
        private static final int ROOM = 2 * (MOST_CHOICES + MEMBRANES);

        private final Rule[] open = new Rule[RULES];
        private int opens;
        private final int[] row = new int[ROOM];
        private int start;
        private int end;
        private final int[] starts = new int[MEMBRANES + 1];
        private final int[] places = new int[MEMBRANES];

        int machineChoice(RuleBook book, Configuration c, int m) {
            gatherOpen(book, c, m);
            long rest = c.heaps[m];
            boolean onceIsSpent = false;
            int choice = 0;
            for (int i = 0; i < opens; i++) {
                int uses = open[i].mostUses(rest, onceIsSpent);
                rest -= uses * open[i].left;
                onceIsSpent = onceIsSpent || (uses > 0 && open[i].isOnce());
                choice = Choice.with(choice, open[i].number, uses);
            }
            return choice;
        }

        /** How many choices a membrane has; one more than the most stands for all above. */
        int count(RuleBook book, Configuration c, int m) {
            end = 0;
            list(book, c, m);
            return end - start;
        }

        /** As count, for a configuration; begins the walk over its choices. */
        int countAll(RuleBook book, Configuration c) {
            int together = 1;
            end = 0;
            for (int m = 0; m < MEMBRANES && together <= MOST_CHOICES; m++) {
                list(book, c, m);
                starts[m] = start;
                starts[m + 1] = end;
                places[m] = start;
                together *= end - start;
            }
            return Math.min(together, MOST_CHOICES + 1);
        }

        /** Answers the choices where the walk is, then takes it a step on: the last membrane is fastest. */
        void takeNext(int[] chosen) {
            boolean turn = true;
            for (int m = MEMBRANES - 1; m >= 0; m--) {
                chosen[m] = row[places[m]];
                if (turn) {
                    places[m]++;
                    turn = places[m] == starts[m + 1];
                    if (turn) {
                        places[m] = starts[m];
                    }
                }
            }
        }

        private void list(RuleBook book, Configuration c, int m) {
            gatherOpen(book, c, m);
            start = end;
            search(0, c.heaps[m], 0, false);
        }

        /** The rules that a membrane may use if it has what they take; of a number not there, none. */
        private void gatherOpen(RuleBook book, Configuration c, int m) {
            opens = 0;
            for (int i = 0; i < book.count; i++) {
                Rule rule = book.rules[i];
                if (rule.label == c.labels[m] && isOpen(rule, c, m)) {
                    open[opens] = rule;
                    opens++;
                }
            }
        }

        private static boolean isOpen(Rule rule, Configuration c, int m) {
            if (rule.isOnce() && m == SKIN) {
                return false;
            }
            if (rule.divides && c.countChildren(m) > 0) {
                return false;
            }
            return rule.into == 0L || c.firstChildWith(m, rule.intoLabel) != NONE;
        }

        /** Goes through the uses of the open rules from a position on, more uses first. */
        private void search(int position, long rest, int choice, boolean onceIsSpent) {
            if (end - start > MOST_CHOICES || end >= ROOM) {
                return;
            }
            if (position >= opens) {
                row[end] = choice;
                end++;
                return;
            }
            Rule rule = open[position];
            for (int uses = rule.mostUses(rest, onceIsSpent); uses >= 0; uses--) {
                long newRest = rest - uses * rule.left;
                boolean spent = onceIsSpent || (uses > 0 && rule.isOnce());
                if (canBecomeMaximal(position + 1, newRest, spent)) {
                    search(position + 1, newRest, Choice.with(choice, rule.number, uses), spent);
                }
            }
        }

        /**
         * Whether the rules before a position might all be stopped by those from it on. It leaves out
         * early what would never be maximal; behind the last rule it is exact.
         */
        private boolean canBecomeMaximal(int position, long rest, boolean onceIsSpent) {
            long mostTaken = 0L;
            boolean onceMayBeSpent = onceIsSpent;
            for (int i = position; i < opens; i++) {
                int uses = open[i].mostUses(rest, onceIsSpent);
                mostTaken += uses * open[i].left;
                onceMayBeSpent = onceMayBeSpent || (uses > 0 && open[i].isOnce());
            }
            for (int i = 0; i < position; i++) {
                boolean stoppedByOnce = open[i].isOnce() && onceMayBeSpent;
                long needed = open[i].left + (mostTaken & open[i].leftKinds);
                if (!stoppedByOnce && Heap.holds(rest, needed)) {
                    return false;
                }
            }
            return true;
        }
    }

    /** Carries out a round with given choices. */
    private static final class Worker {
        private final Rule[] onceUsed = new Rule[MEMBRANES];

        /** Changes a configuration to what comes of it; false when that is too much. */
        boolean carryOut(RuleBook book, Configuration c, int[] chosen) {
            for (int m = 0; m < MEMBRANES; m++) {
                onceUsed[m] = null;
                for (int i = 0; i < book.count; i++) {
                    int uses = Choice.usesOf(chosen[m], i);
                    if (uses > 0) {
                        takeAndMake(c, m, book.rules[i], uses);
                    }
                }
            }
            if (!splitAll(c)) {
                return false;
            }
            meltAll(c);
            return !c.isTooMuch();
        }

        /** What is made may be added before others take: the choices are fixed, and sums have no order. */
        private void takeAndMake(Configuration c, int m, Rule rule, int uses) {
            c.heaps[m] -= uses * rule.left;
            if (!rule.divides) {
                c.heaps[m] += uses * rule.here;
            }
            c.heaps[c.parents[m]] += uses * rule.out;
            if (rule.into != 0L) {
                int child = c.firstChildWith(m, rule.intoLabel);
                if (child != NONE) {
                    c.heaps[child] += uses * rule.into;
                }
            }
            if (rule.isOnce()) {
                onceUsed[m] = rule;
            }
        }

        private boolean splitAll(Configuration c) {
            for (int m = 0; m < MEMBRANES; m++) {
                Rule rule = onceUsed[m];
                if (rule != null && rule.divides) {
                    int number = c.leastFree();
                    if (number == NONE) {
                        return false;
                    }
                    c.open(number, c.parents[m], c.labels[m], c.heaps[m] + rule.other);
                    c.heaps[m] += rule.here;
                }
            }
            return true;
        }

        private void meltAll(Configuration c) {
            for (int m = 0; m < MEMBRANES; m++) {
                Rule rule = onceUsed[m];
                if (rule != null && rule.dissolves) {
                    melt(c, m);
                }
            }
        }

        private static void melt(Configuration c, int m) {
            int parent = c.parents[m];
            c.heaps[parent] += c.heaps[m];
            for (int child = 0; child < MEMBRANES; child++) {
                if (c.parents[child] == m) {
                    c.parents[child] = parent;
                }
            }
            c.close(m);
        }
    }

    /** Finds the outcomes, one number of rounds behind the other. */
    private static final class Judge {
        Configuration[] found = new Configuration[MOST_OUTCOMES];
        int count;
        private Configuration[] before = new Configuration[MOST_OUTCOMES];
        private final Configuration trial = new Configuration();
        private final int[] chosen = new int[MEMBRANES];

        Judge() {
            for (int i = 0; i < MOST_OUTCOMES; i++) {
                found[i] = new Configuration();
                before[i] = new Configuration();
            }
        }

        void begin(Configuration c) {
            found[0].copy(c);
            count = 1;
        }

        /**
         * From the outcomes of some rounds to those of one more; false, and none, when the limit is met.
         * A halted configuration needs no case: its one choice uses nothing, so it comes of itself.
         */
        boolean goOn(RuleBook book, Chooser chooser, Worker worker) {
            Configuration[] old = before;
            before = found;
            found = old;
            int befores = count;
            count = 0;
            boolean roomLeft = true;
            for (int i = 0; i < befores && roomLeft; i++) {
                int ways = chooser.countAll(book, before[i]);
                roomLeft = ways <= MOST_CHOICES;
                for (int way = 0; way < ways && roomLeft; way++) {
                    chooser.takeNext(chosen);
                    trial.copy(before[i]);
                    roomLeft = !worker.carryOut(book, trial, chosen) || keep(trial);
                }
            }
            if (!roomLeft) {
                count = 0;
            }
            return roomLeft;
        }

        /** Puts a configuration behind those found, if it is new; false when there is no room for it. */
        private boolean keep(Configuration c) {
            for (int i = 0; i < count; i++) {
                if (found[i].isSame(c)) {
                    return true;
                }
            }
            if (count >= MOST_OUTCOMES) {
                return false;
            }
            found[count].copy(c);
            count++;
            return true;
        }
    }

    /** Writes a configuration. */
    private static final class Scribe {
        /** For each membrane its label, two brackets and 12 objects of each kind. */
        private static final int ROOM = MEMBRANES * (3 + KINDS * MOST_OBJECTS);

        private final char[] row = new char[ROOM];
        private int length;

        int character(Configuration c, int i) {
            length = 0;
            writeMembrane(c, SKIN, 0);
            return i >= 0 && i < length ? row[i] : NONE;
        }

        private void writeMembrane(Configuration c, int m, int depth) {
            if (depth >= MEMBRANES) {
                return;
            }
            add((char) ('0' + c.labels[m]));
            add('(');
            for (int kind = 0; kind < KINDS; kind++) {
                int objects = Heap.count(c.heaps[m], kind);
                for (int i = 0; i < objects; i++) {
                    add((char) ('a' + kind));
                }
            }
            for (int child = 0; child < MEMBRANES; child++) {
                if (c.parents[child] == m) {
                    writeMembrane(c, child, depth + 1);
                }
            }
            add(')');
        }

        private void add(char letter) {
            if (length < ROOM) {
                row[length] = letter;
                length++;
            }
        }
    }
}
