import java.util.ArrayList;
import java.util.Arrays;
import java.util.List;

/**
 * Plays long made-up runs on the class and on a plain model that follows the document's words one by
 * one (every choice is tried, every count has a cell of its own), and compares all answers.
 */
public final class PlainModelTest {
    private static final int RUNS = 4000;
    private static final int CALLS = 32;
    private static final int SET_UP = 20;
    /** How often each call comes, from clear to adopt: first while a run is set up, then as it goes on. */
    private static final int[] SET_UP_WEIGHTS = {0, 4, 9, 10, 2, 1, 1, 0, 1, 0};
    private static final int[] WEIGHTS = {1, 4, 12, 6, 4, 4, 4, 30, 45, 20};

    private static int wrong = 0;
    private static long seed = 20261115L;
    private static final int[] seen = new int[9];

    public static void main(String[] args) {
        for (int run = 0; run < RUNS && wrong == 0; run++) {
            play(run);
        }
        System.out.println("rounds " + seen[0] + ", too much " + seen[1] + ", divided " + seen[2] + ", dissolved "
                + seen[3] + ", outcomes " + seen[4] + ", at the limit " + seen[5] + ", more than one " + seen[6]
                + ", none " + seen[7] + ", adopted " + seen[8]);
        for (int count : seen) {
            if (count < 100) {
                wrong++;
                System.out.println("the runs meet something too seldom");
            }
        }
        System.exit(wrong == 0 ? 0 : 1);
    }

    /** A fixed row of numbers, the same in every run of the test. */
    private static int pick(int below) {
        seed = seed * 6364136223846793005L + 1442695040888963407L;
        return (int) ((seed >>> 33) % below);
    }

    private static int smallHandful() {
        int handful = 0;
        for (int kind = 0; kind < 5; kind++) {
            int n = pick(8);
            handful |= (n < 5 ? 0 : n < 7 ? 1 : 2) << (2 * kind);
        }
        return handful;
    }

    /** What rules take is mostly little, so that there is more than one way to choose. */
    private static int leftHandful() {
        int n = pick(60);
        if (n < 2) {
            return n == 0 ? 0 : 1024 - 1025 * pick(2);
        }
        int handful = 1 << (2 * pick(3));
        if (n < 20) {
            handful |= 1 << pick(10);
        }
        return handful;
    }

    private static void play(int run) {
        Machine x = new Machine();
        Model y = new Model();
        List<int[]> calls = new ArrayList<>();
        StringBuilder told = new StringBuilder("run " + run + ":");
        int labels = 1 + Math.min(pick(4), pick(4));
        for (int i = 0; i < CALLS && wrong == 0; i++) {
            int kind = i == 0 ? 0 : choose(i < SET_UP ? SET_UP_WEIGHTS : WEIGHTS);
            int[] p = arguments(kind, labels);
            calls.add(new int[] {kind});
            calls.add(p);
            told.append(' ').append(kind).append(Arrays.toString(p));
            String got = call(x, kind, p);
            String due = y.call(kind, p);
            compare(told, "answer", got, due);
            compare(told, "state", state(calls), y.state());
            note(kind, due);
        }
    }

    private static int choose(int[] weights) {
        int sum = 0;
        for (int weight : weights) {
            sum += weight;
        }
        int n = pick(sum);
        int kind = 0;
        while (n >= weights[kind]) {
            n -= weights[kind];
            kind++;
        }
        return kind;
    }

    private static int[] arguments(int kind, int labels) {
        int label = pick(30) == 0 ? 4 - 5 * pick(2) : pick(labels);
        int handful = pick(40) == 0 ? 1024 - 1025 * pick(2) : smallHandful();
        switch (kind) {
            case 0: return new int[] {label};
            case 1: return new int[] {pick(4), label};
            case 2: return new int[] {pick(6), pick(60) == 0 ? 1024 : smallHandful() | smallHandful()};
            case 3: return new int[] {label, leftHandful(), smallHandful(), smallHandful()};
            case 4: return new int[] {pick(6), label, handful};
            case 5: return new int[] {pick(6)};
            case 6: return new int[] {pick(6), handful};
            case 8: return new int[] {pick(30) == 0 ? 4 - 5 * pick(2) : pick(4)};
            case 9: return new int[] {pick(3) - (pick(20) == 0 ? 1 : 0)};
            default: return new int[0];
        }
    }

    private static String call(Machine x, int kind, int[] p) {
        try {
            switch (kind) {
                case 0: x.clear(p[0]); return "";
                case 1: return "" + x.membrane(p[0], p[1]);
                case 2: x.put(p[0], p[1]); return "";
                case 3: return "" + x.rule(p[0], p[1], p[2], p[3]);
                case 4: x.into(p[0], p[1], p[2]); return "";
                case 5: x.dissolve(p[0]); return "";
                case 6: x.divide(p[0], p[1]); return "";
                case 7: return "" + x.round();
                case 8: return "" + x.outcomes(p[0]);
                default: x.adopt(p[0]); return "";
            }
        } catch (RuntimeException e) {
            return e.getClass().getSimpleName();
        }
    }

    private static void note(int kind, String due) {
        if (kind == 7) {
            seen[due.equals("IllegalStateException") ? 1 : 0]++;
        } else if (kind == 8) {
            seen[4]++;
            seen[5] += due.equals("-2") ? 1 : 0;
            seen[6] += due.matches("[2-9]|[1-4][0-9]") ? 1 : 0;
            seen[7] += due.equals("0") ? 1 : 0;
        } else if (kind == 9 && due.isEmpty()) {
            seen[8]++;
        }
    }

    private static void compare(StringBuilder told, String what, String got, String due) {
        if (!got.equals(due)) {
            wrong++;
            System.out.println(told + "\n " + what + "\n got " + got + "\n due " + due);
        }
    }

    /** An object behind so many calls (a kind and its arguments each), with most of its 512 calls left. */
    private static Machine played(List<int[]> calls) {
        Machine x = new Machine();
        for (int i = 0; i < calls.size(); i += 2) {
            call(x, calls.get(i)[0], calls.get(i + 1));
        }
        return x;
    }

    /** All that can be asked, in one text. */
    private static String state(List<int[]> calls) {
        StringBuilder text = new StringBuilder();
        Machine x = played(calls);
        for (int m = -1; m < 7; m++) {
            text.append(x.there(m) ? "\n+" : "\n-");
            for (int what = -1; what < 9; what++) {
                text.append(' ').append(asked(x, 0, m, what, 0));
            }
            for (int rule = -1; rule < 7; rule++) {
                text.append(' ').append(asked(x, 1, m, rule, 0));
            }
            text.append(' ').append(asked(x, 2, m, 0, 0)).append(' ').append(asked(x, 3, m, 0, 0));
        }
        x = played(calls);
        text.append('\n').append(x.writing());
        for (int i = 0; !asked(x, 4, i, 0, 0).equals("I"); i++) {
            text.append('\n');
            if (x.callsLeft() < 200) {
                x = played(calls);
            }
            for (int m = -1; m < 7; m++) {
                for (int what = -1; what < 12; what++) {
                    text.append(' ').append(asked(x, 4, i, m, what));
                }
            }
        }
        return text.toString();
    }

    private static String asked(Machine x, int kind, int a, int b, int c) {
        try {
            switch (kind) {
                case 0: return "" + x.at(a, b);
                case 1: return "" + x.uses(a, b);
                case 2: return "" + x.choices(a);
                case 3: return "" + x.outside(a);
                default: return "" + x.outcome(a, b, c);
            }
        } catch (IndexOutOfBoundsException e) {
            return "I";
        } catch (IllegalArgumentException e) {
            return "A";
        }
    }

    /** One that throws what is given, as a call of the class would. */
    private static final class Refused extends RuntimeException {
        private static final long serialVersionUID = 1L;

        Refused(String name) {
            super(name);
        }
    }

    private static final class PlainRule {
        int label;
        int[] left;
        int[] here;
        int[] out;
        int intoLabel = -1;
        int[] into;
        boolean dissolves;
        int[] other;
    }

    private static final class Place {
        int label;
        int parent;
        int[] objects = new int[5];
    }

    private static final class World {
        Place[] places = new Place[6];
        int[] outside = new int[5];

        World copy() {
            World w = new World();
            w.outside = outside.clone();
            for (int m = 0; m < 6; m++) {
                if (places[m] != null) {
                    w.places[m] = new Place();
                    w.places[m].label = places[m].label;
                    w.places[m].parent = places[m].parent;
                    w.places[m].objects = places[m].objects.clone();
                }
            }
            return w;
        }

        List<Integer> children(int m) {
            List<Integer> list = new ArrayList<>();
            for (int c = 1; c < 6; c++) {
                if (places[c] != null && places[c].parent == m) {
                    list.add(c);
                }
            }
            return list;
        }

        int childWith(int m, int label) {
            for (int c : children(m)) {
                if (places[c].label == label) {
                    return c;
                }
            }
            return -1;
        }

        int free() {
            for (int m = 0; m < 6; m++) {
                if (places[m] == null) {
                    return m;
                }
            }
            return -1;
        }

        String writing(int m) {
            StringBuilder text = new StringBuilder().append(places[m].label).append('(');
            for (int kind = 0; kind < 5; kind++) {
                text.append(("" + (char) ('a' + kind)).repeat(places[m].objects[kind]));
            }
            for (int c : children(m)) {
                text.append(writing(c));
            }
            return text.append(')').toString();
        }

        String key() {
            StringBuilder text = new StringBuilder(Arrays.toString(outside));
            for (Place place : places) {
                text.append(place == null ? "-" : place.label + "/" + place.parent + Arrays.toString(place.objects));
            }
            return text.toString();
        }
    }

    private static final class Model {
        World now = new World();
        List<PlainRule> rules = new ArrayList<>();
        List<World> found = new ArrayList<>();

        Model() {
            reset(0);
        }

        private void reset(int label) {
            now = new World();
            now.places[0] = new Place();
            now.places[0].label = label;
            now.places[0].parent = -1;
            rules.clear();
            found.clear();
        }

        String call(int kind, int[] p) {
            try {
                return carry(kind, p);
            } catch (Refused e) {
                return e.getMessage();
            }
        }

        private String carry(int kind, int[] p) {
            switch (kind) {
                case 0: argument(isLabel(p[0])); reset(p[0]); return "";
                case 1: return "" + newPlace(p[0], p[1]);
                case 2: putInto(p[0], p[1]); return "";
                case 3: return "" + newRule(p);
                case 4: makeInto(p[0], p[1], p[2]); return "";
                case 5: index(isRule(p[0])); endOnce(p[0]); rules.get(p[0]).dissolves = true; return "";
                case 6:
                    index(isRule(p[0]));
                    argument(isHandful(p[1]));
                    endOnce(p[0]);
                    rules.get(p[0]).other = objects(p[1]);
                    return "";
                case 7: return "" + goRound();
                case 8: return "" + judge(p[0]);
                default: index(p[0] >= 0 && p[0] < found.size()); now = found.get(p[0]).copy(); return "";
            }
        }

        private int newPlace(int parent, int label) {
            index(isPlace(parent));
            argument(isLabel(label));
            int number = now.free();
            state(number >= 0);
            now.places[number] = new Place();
            now.places[number].label = label;
            now.places[number].parent = parent;
            return number;
        }

        private void putInto(int m, int handful) {
            index(isPlace(m));
            argument(isHandful(handful));
            int[] sum = now.places[m].objects.clone();
            add(sum, objects(handful), 1);
            state(Arrays.stream(sum).allMatch(n -> n <= 12));
            now.places[m].objects = sum;
        }

        private int newRule(int[] p) {
            argument(isLabel(p[0]) && isHandful(p[1]) && isHandful(p[2]) && isHandful(p[3]) && p[1] != 0);
            state(rules.size() < 6);
            PlainRule rule = new PlainRule();
            rule.label = p[0];
            rule.left = objects(p[1]);
            rule.here = objects(p[2]);
            rule.out = objects(p[3]);
            rules.add(rule);
            return rules.size() - 1;
        }

        private void makeInto(int rule, int label, int handful) {
            index(isRule(rule));
            argument(isLabel(label) && isHandful(handful) && handful != 0);
            rules.get(rule).intoLabel = label;
            rules.get(rule).into = objects(handful);
        }

        private void endOnce(int rule) {
            state(!ends(rules.get(rule)));
        }

        private static boolean ends(PlainRule rule) {
            return rule.dissolves || rule.other != null;
        }

        private static void index(boolean fine) {
            refuse(fine, "IndexOutOfBoundsException");
        }

        private static void argument(boolean fine) {
            refuse(fine, "IllegalArgumentException");
        }

        private static void state(boolean fine) {
            refuse(fine, "IllegalStateException");
        }

        private static void refuse(boolean fine, String name) {
            if (!fine) {
                throw new Refused(name);
            }
        }

        private boolean isPlace(int m) {
            return m >= 0 && m < 6 && now.places[m] != null;
        }

        private boolean isRule(int r) {
            return r >= 0 && r < rules.size();
        }

        private static boolean isLabel(int label) {
            return label >= 0 && label <= 3;
        }

        private static boolean isHandful(int handful) {
            return handful >= 0 && handful <= 1023;
        }

        private static int[] objects(int handful) {
            int[] objects = new int[5];
            for (int kind = 0; kind < 5; kind++) {
                objects[kind] = handful / (1 << (2 * kind)) % 4;
            }
            return objects;
        }

        private static void add(int[] to, int[] what, int times) {
            for (int kind = 0; kind < 5; kind++) {
                to[kind] += times * what[kind];
            }
        }

        private boolean allowed(World w, int m, int[] uses) {
            int[] taken = new int[5];
            int endings = 0;
            for (int r = 0; r < rules.size(); r++) {
                PlainRule rule = rules.get(r);
                if (uses[r] == 0) {
                    continue;
                }
                if (rule.label != w.places[m].label) {
                    return false;
                }
                if (rule.into != null && w.childWith(m, rule.intoLabel) < 0) {
                    return false;
                }
                if (ends(rule) && m == 0 || rule.other != null && !w.children(m).isEmpty()) {
                    return false;
                }
                endings += ends(rule) ? uses[r] : 0;
                add(taken, rule.left, uses[r]);
            }
            for (int kind = 0; kind < 5; kind++) {
                if (taken[kind] > w.places[m].objects[kind]) {
                    return false;
                }
            }
            return endings <= 1;
        }

        private int[] machineChoice(World w, int m) {
            int[] uses = new int[6];
            for (int r = 0; r < rules.size(); r++) {
                do {
                    uses[r]++;
                } while (allowed(w, m, uses));
                uses[r]--;
            }
            return uses;
        }

        private List<int[]> allChoices(World w, int m) {
            List<int[]> list = new ArrayList<>();
            walk(w, m, 0, new int[6], list);
            return list;
        }

        private void walk(World w, int m, int r, int[] uses, List<int[]> list) {
            if (r == rules.size()) {
                if (maximal(w, m, uses)) {
                    list.add(uses.clone());
                }
                return;
            }
            for (int n = 12; n >= 0; n--) {
                uses[r] = n;
                if (allowed(w, m, uses)) {
                    walk(w, m, r + 1, uses, list);
                }
            }
            uses[r] = 0;
        }

        private boolean maximal(World w, int m, int[] uses) {
            for (int r = 0; r < rules.size(); r++) {
                int[] more = uses.clone();
                more[r]++;
                if (allowed(w, m, more)) {
                    return false;
                }
            }
            return true;
        }

        /** What comes of choices, or null when it is too much. */
        private World after(World before, int[][] chosen) {
            World w = before.copy();
            for (int m = 0; m < 6; m++) {
                for (int r = 0; r < rules.size() && w.places[m] != null; r++) {
                    add(w.places[m].objects, rules.get(r).left, -chosen[m][r]);
                }
            }
            for (int m = 0; m < 6; m++) {
                for (int r = 0; r < rules.size() && w.places[m] != null; r++) {
                    make(w, m, rules.get(r), chosen[m][r]);
                }
            }
            for (int m = 0; m < 6; m++) {
                for (int r = 0; r < rules.size(); r++) {
                    if (chosen[m][r] > 0 && rules.get(r).other != null) {
                        if (w.free() < 0) {
                            return null;
                        }
                        split(w, m, rules.get(r));
                    }
                }
            }
            for (int m = 0; m < 6; m++) {
                for (int r = 0; r < rules.size(); r++) {
                    if (chosen[m][r] > 0 && rules.get(r).dissolves) {
                        melt(w, m);
                    }
                }
            }
            return fits(w) ? w : null;
        }

        private static void make(World w, int m, PlainRule rule, int uses) {
            if (uses == 0) {
                return;
            }
            if (rule.other == null) {
                add(w.places[m].objects, rule.here, uses);
            }
            add(m == 0 ? w.outside : w.places[w.places[m].parent].objects, rule.out, uses);
            if (rule.into != null) {
                add(w.places[w.childWith(m, rule.intoLabel)].objects, rule.into, uses);
            }
        }

        private static void split(World w, int m, PlainRule rule) {
            seen[2]++;
            Place twin = w.copy().places[m];
            w.places[w.free()] = twin;
            add(w.places[m].objects, rule.here, 1);
            add(twin.objects, rule.other, 1);
        }

        private static void melt(World w, int m) {
            seen[3]++;
            Place gone = w.places[m];
            add(w.places[gone.parent].objects, gone.objects, 1);
            for (int c : w.children(m)) {
                w.places[c].parent = gone.parent;
            }
            w.places[m] = null;
        }

        private static boolean fits(World w) {
            boolean fine = Arrays.stream(w.outside).allMatch(n -> n <= 999);
            for (Place place : w.places) {
                fine = fine && (place == null || Arrays.stream(place.objects).allMatch(n -> n <= 12));
            }
            return fine;
        }

        private int goRound() {
            int used = 0;
            int[][] chosen = new int[6][6];
            for (int m = 0; m < 6; m++) {
                if (now.places[m] != null) {
                    chosen[m] = machineChoice(now, m);
                    used += Arrays.stream(chosen[m]).sum();
                }
            }
            World w = after(now, chosen);
            state(w != null);
            now = w;
            return used;
        }

        private int judge(int rounds) {
            argument(rounds >= 0 && rounds <= 3);
            found = new ArrayList<>();
            found.add(now.copy());
            for (int i = 0; i < rounds; i++) {
                List<World> next = new ArrayList<>();
                List<String> keys = new ArrayList<>();
                for (World w : found) {
                    if (!follow(w, next, keys)) {
                        found = new ArrayList<>();
                        return -2;
                    }
                }
                found = next;
            }
            return found.size();
        }

        private boolean follow(World w, List<World> next, List<String> keys) {
            List<List<int[]>> all = new ArrayList<>();
            long ways = 1;
            for (int m = 0; m < 6; m++) {
                all.add(w.places[m] == null ? List.of(new int[6]) : allChoices(w, m));
                ways *= all.get(m).size();
            }
            if (ways > 1000) {
                return false;
            }
            walkWays(w, all, new int[6][], 0, next, keys);
            return next.size() <= 40;
        }

        private void walkWays(World w, List<List<int[]>> all, int[][] chosen, int m, List<World> next,
                List<String> keys) {
            if (m == 6) {
                World after = after(w, chosen);
                if (after != null && !keys.contains(after.key())) {
                    keys.add(after.key());
                    next.add(after);
                }
                return;
            }
            for (int[] choice : all.get(m)) {
                chosen[m] = choice;
                walkWays(w, all, chosen, m + 1, next, keys);
            }
        }

        /** The same text as the class's state gives. */
        String state() {
            StringBuilder text = new StringBuilder();
            for (int m = -1; m < 7; m++) {
                boolean there = isPlace(m);
                text.append(there ? "\n+" : "\n-");
                for (int what = -1; what < 9; what++) {
                    text.append(' ').append(there ? look(m, what) : "I");
                }
                int[] uses = there ? machineChoice(now, m) : null;
                for (int rule = -1; rule < 7; rule++) {
                    text.append(' ').append(there && isRule(rule) ? "" + uses[rule] : "I");
                }
                text.append(' ').append(there ? "" + Math.min(1000, allChoices(now, m).size()) : "I");
                text.append(' ').append(m >= 0 && m < 5 ? "" + now.outside[m] : "I");
            }
            text.append('\n').append(now.writing(0));
            for (World w : found) {
                text.append('\n');
                for (int m = -1; m < 7; m++) {
                    for (int what = -1; what < 12; what++) {
                        text.append(' ').append(m < 0 || m > 5 ? "I" : lookAt(w, m, what));
                    }
                }
            }
            return text.toString();
        }

        private String look(int m, int what) {
            Place place = now.places[m];
            switch (what) {
                case -1: return "A";
                case 5: return "" + place.label;
                case 6: return "" + place.parent;
                case 7: return "" + now.children(m).size();
                case 8: return "A";
                default: return "" + place.objects[what];
            }
        }

        private static String lookAt(World w, int m, int what) {
            if (what < 0 || what > 10) {
                return "A";
            }
            if (what >= 6) {
                return "" + w.outside[what - 6];
            }
            if (w.places[m] == null) {
                return "-1";
            }
            return "" + (what == 5 ? w.places[m].label : w.places[m].objects[what]);
        }
    }
}
