import java.util.ArrayList;
import java.util.HashMap;
import java.util.List;
import java.util.Map;
import java.util.function.IntPredicate;
import java.util.regex.Matcher;
import java.util.regex.Pattern;

/**
 * Each sentence of the document that names a boundary case has a test of its own here, named by its words.
 *
 * Runs are written as scripts: calls one after the other, "call(arguments)=answer" or, where the answer does not
 * matter, just the call; "3*call()" stands for three such calls; true and false count 1 and 0.
 */
public final class BoundariesTest {
    private static final int MOST_CALLS = 512;
    private static final int MOST_LINES_OF_A_SENTENCE = 3;
    private static final int[] NOISES = {4711, 0, 1, -1, 250, 251, Integer.MAX_VALUE, Integer.MIN_VALUE};
    private static final int[] NOT_SECRETS = {-1, 251, 252, -250, -251, 256, 502, 65536, Integer.MIN_VALUE,
        Integer.MAX_VALUE};
    private static final Pattern CALL = Pattern.compile("(?:(\\d+)\\*)?(\\w+)\\(([^)]*)\\)(?:=(\\S+))?");

    // The document's own numbers, so that a wrong constant of the class is seen too.
    private static final Map<String, Integer> NAMES = Map.ofEntries(
        Map.entry("BAD_PARTY", -1), Map.entry("BAD_GATE", -2), Map.entry("FULL", -3), Map.entry("STACK_HIGH", -4),
        Map.entry("STACK_LOW", -5), Map.entry("UNFINISHED", -6), Map.entry("BAD_SECRET", -7),
        Map.entry("NOT_SHARED", -8), Map.entry("REFUSED", -9), Map.entry("true", 1), Map.entry("false", 0),
        Map.entry("MIN", Integer.MIN_VALUE), Map.entry("MAX", Integer.MAX_VALUE));

    // Ways to get an object somewhere; PAIR_OR_TWO is (0 and 1) or (at least 2 of 2, 3, 4), of 8 nodes.
    private static final String PAIR_OR_TWO =
        " leaf(0)=1 leaf(1)=2 gate(2,2)=1 leaf(2)=2 leaf(3)=3 leaf(4)=4 gate(2,3)=2 gate(1,2)=1 ";
    private static final String EMPTY = " ";
    private static final String ONE_LEAF = " leaf(3)=1 ";
    private static final String TWO = " leaf(6)=1 leaf(1)=2 ";
    private static final String SIX = " leaf(0)=1 leaf(1)=2 leaf(2)=3 leaf(3)=4 leaf(4)=5 leaf(5)=6 ";
    private static final String SHARED = PAIR_OR_TWO + " share(100)=0 ";
    private static final String SHARED_TWO = SHARED + " leaf(7)=2 ";
    private static final String SHARED_GROWN = SHARED + " leaf(7)=2 gate(2,2)=1 ";
    private static final String SHARED_SIX = SHARED + " leaf(3)=2 leaf(4)=3 leaf(5)=4 leaf(6)=5 leaf(7)=6 ";
    private static final String FULL_ONE = PAIR_OR_TWO + " 16*gate(1,1)=1 ";
    private static final String FULL_SIX = SIX + " 18*gate(1,1)=6 ";
    private static final String FULL_ONE_SHARED = FULL_ONE + " share(100)=0 ";
    private static final String FULL_SIX_SHARED = SHARED_SIX + " 11*gate(1,1)=6 ";
    // All eight parties, some at several leaves; the last leaf stands as near to the 24th node as can be.
    private static final String ALL_OF_EIGHT = " leaf(0)=1 leaf(1) leaf(2) leaf(3) leaf(4) gate(5,5)=1 leaf(5) leaf(1)"
        + " leaf(2) leaf(3) gate(5,5)=1 leaf(4) leaf(0) leaf(5) leaf(2) gate(5,5)=1 leaf(3) leaf(3) leaf(6) leaf(4)"
        + " gate(5,5)=1 leaf(6) leaf(7) gate(3,3)=1 ";
    private static final String CLEARED = FULL_SIX_SHARED + " clear() ";

    private static final List<String> UNSHARED_STATES =
        List.of(EMPTY, ONE_LEAF, TWO, SIX, PAIR_OR_TWO, FULL_ONE, FULL_SIX, CLEARED);
    private static final List<String> SHARED_STATES =
        List.of(SHARED, SHARED_TWO, SHARED_GROWN, SHARED_SIX, FULL_ONE_SHARED, FULL_SIX_SHARED);
    private static final List<String> FULL_STATES = List.of(FULL_ONE, FULL_SIX, FULL_ONE_SHARED, FULL_SIX_SHARED);

    // What follows a call that should have changed nothing: together these tell all that an object can hold.
    private static final String[] SHARED_PROBES = {
        eachSet("open"), eachSet("minimal"), " qualified() fewest() needed() add(3) open(255) scale(7) open(255)"
        + " refresh() open(255) qualified() fewest() needed() "};
    private static final String[] STACK_PROBES = {
        " 7*leaf(6) share(1) ", " 25*gate(1,1) ", " gate(1,5) gate(1,4) gate(1,3) gate(1,2) ",
        " share(9) " + eachSet("open"), " 5*gate(1,2) share(9) " + eachSet("open"),
        " 5*gate(2,2) share(9) " + eachSet("open"),
        " gate(1,2) gate(2,2) gate(1,2) gate(2,2) gate(1,2) share(9) " + eachSet("open")};

    private static final Map<String, List<Integer>> known = new HashMap<>();
    private static String sentence = "";
    private static int sentences = 0;
    private static int wrongHere = 0;
    private static int wrong = 0;

    public static void main(String[] args) {
        whatItIs();
        terms();
        masks();
        aNewObject();
        leaf();
        gate();
        clear();
        share();
        whatWasShared();
        add();
        scale();
        refresh();
        open();
        qualified();
        minimal();
        fewestAndNeeded();
        orderOfLeafAndGate();
        orderOfTheOthers();
        System.out.println(wrong == 0 ? sentences + " sentences hold" : wrong + " answers are not as due");
        if (wrong != 0) {
            System.exit(1);
        }
    }

    // ---- scripts ----

    private record Call(String name, int a, int b, String text, Integer due) {
        int on(FormulaSharing x) {
            switch (name) {
                case "leaf": return x.leaf(a);
                case "gate": return x.gate(a, b);
                case "share": return x.share(a);
                case "add": return x.add(a);
                case "scale": return x.scale(a);
                case "refresh": return x.refresh();
                case "open": return x.open(a);
                case "qualified": return x.qualified();
                case "minimal": return x.minimal(a) ? 1 : 0;
                case "fewest": return x.fewest();
                case "needed": return x.needed();
                case "clear":
                    x.clear();
                    return 0;
                default: throw new IllegalArgumentException(name);
            }
        }
    }

    private static int number(String word) {
        return NAMES.containsKey(word) ? NAMES.get(word) : Integer.parseInt(word);
    }

    private static List<Call> calls(String script) {
        List<Call> calls = new ArrayList<>();
        Matcher m = CALL.matcher(script);
        while (m.find()) {
            String[] arguments = m.group(3).isEmpty() ? new String[0] : m.group(3).split(",");
            int a = arguments.length > 0 ? number(arguments[0]) : 0;
            int b = arguments.length > 1 ? number(arguments[1]) : 0;
            Integer due = m.group(4) == null ? null : number(m.group(4));
            Call call = new Call(m.group(2), a, b, m.group(2) + "(" + m.group(3) + ")", due);
            int times = m.group(1) == null ? 1 : Integer.parseInt(m.group(1));
            for (int i = 0; i < times; i++) {
                calls.add(call);
            }
        }
        if (!CALL.matcher(script).replaceAll("").isBlank()) {
            throw new IllegalArgumentException("not a script: " + script);
        }
        if (calls.size() > MOST_CALLS) {
            throw new IllegalArgumentException("nothing is promised after 512 calls: " + calls.size());
        }
        return calls;
    }

    private static String eachSet(String name) {
        StringBuilder script = new StringBuilder(" ");
        for (int set = 0; set < 256; set++) {
            script.append(name).append("(").append(set).append(") ");
        }
        return script.toString();
    }

    // ---- checks ----

    private static void sentence(String where, String words, Runnable test) {
        sentence = where + ", '" + words + "'";
        sentences++;
        wrongHere = 0;
        try {
            test.run();
        } catch (RuntimeException thrown) {
            say("threw " + thrown);
        }
    }

    private static void say(String what) {
        wrong++;
        wrongHere++;
        if (wrongHere <= MOST_LINES_OF_A_SENTENCE) {
            System.out.println(sentence + ": " + what);
        }
    }

    /** Runs a script on new objects of several noises; every answer that it names is due. */
    private static void due(String script) {
        for (int noise : NOISES) {
            FormulaSharing x = new FormulaSharing(noise);
            int at = 0;
            for (Call call : calls(script)) {
                int got = call.on(x);
                at++;
                if (call.due() != null && got != call.due()) {
                    say("call " + at + " of noise " + noise + ", " + call.text() + ", answered " + got
                        + ", due is " + call.due() + " in:" + script);
                }
            }
        }
    }

    /** The answers to a probe on a new object that has come through a script. */
    private static List<Integer> answers(String script, String probe) {
        return known.computeIfAbsent(script + "|" + probe, key -> {
            FormulaSharing x = new FormulaSharing(4711);
            List<Integer> answers = new ArrayList<>();
            int skipped = calls(script).size();
            for (Call call : calls(script + probe)) {
                answers.add(call.on(x));
            }
            return answers.subList(skipped, answers.size());
        });
    }

    /** After both scripts all calls that follow answer alike. */
    private static void alike(String one, String other, String[]... probes) {
        for (String[] several : probes) {
            for (String probe : several) {
                if (!answers(one, probe).equals(answers(other, probe))) {
                    say("after" + one + "and after" + other + "the answers differ in:" + probe);
                }
            }
        }
    }

    private static void alike(String one, String other) {
        alike(one, other, SHARED_PROBES, STACK_PROBES);
    }

    /** The call gets this answer there, and nothing changes. */
    private static void idle(String state, String callAndAnswer) {
        due(state + callAndAnswer);
        alike(state + callAndAnswer + " ", state);
    }

    /** The formula shares a secret so that just those sets open it for which the predicate holds. */
    private static void opensFor(String formula, IntPredicate fulfils) {
        for (int secret : new int[] {0, 1, 173, 250}) {
            StringBuilder script = new StringBuilder(formula + " share(" + secret + ")=0 ");
            for (int set = 0; set < 256; set++) {
                script.append("open(" + set + ")=" + (fulfils.test(set) ? secret : "REFUSED") + " ");
            }
            due(script.toString());
        }
    }

    private static boolean has(int set, int party) {
        return (set >> party & 1) == 1;
    }

    /** How many of the parties from first to last are in the set. */
    private static int among(int set, int first, int last) {
        int count = 0;
        for (int party = first; party <= last; party++) {
            count += has(set, party) ? 1 : 0;
        }
        return count;
    }

    /** The leaves of parties 0 to count - 1. */
    private static String leaves(int count) {
        StringBuilder script = new StringBuilder(" ");
        for (int i = 0; i < count; i++) {
            script.append("leaf(" + i + ")=" + (i + 1) + " ");
        }
        return script.toString();
    }

    /** At least k of the first n parties; any n from 1 to 8 with k = 1 or k = n, else n up to 5. */
    private static String atLeast(int k, int n) {
        if (n <= 5) {
            return leaves(n) + "gate(" + k + "," + n + ")=1 ";
        }
        StringBuilder script = new StringBuilder(leaves(5) + "gate(" + (k == n ? 5 : 1) + ",5)=1 ");
        for (int i = 5; i < n; i++) {
            script.append("leaf(" + i + ")=" + (i - 3) + " ");
        }
        return script + "gate(" + (k == n ? n - 4 : 1) + "," + (n - 4) + ")=1 ";
    }

    // ---- the sentences ----

    private static void whatItIs() {
        sentence("What it is", "eight PARTIES (0 to 7)", () -> {
            for (int party = 0; party < 8; party++) {
                int only = party;
                opensFor(" leaf(" + party + ")=1 ", set -> has(set, only));
            }
        });
        sentence("What it is", "just those sets of parties that fulfil the formula", () -> {
            opensFor(PAIR_OR_TWO, set -> among(set, 0, 1) == 2 || among(set, 2, 4) >= 2);
            opensFor(FULL_ONE, set -> among(set, 0, 1) == 2 || among(set, 2, 4) >= 2);
            opensFor(atLeast(1, 8), set -> set != 0);
            opensFor(atLeast(8, 8), set -> set == 255);
        });
        sentence("What it is", "at most 512 calls after it has been made", () -> {
            due("leaf(0)=1 share(0)=0 509*add(1)=0 open(1)=7");
            due("leaf(0)=1 leaf(1)=2 gate(2,2)=1 share(1)=0 507*scale(2)=0 open(3)=" + powerOfTwo(507));
            due(SHARED + "501*refresh()=0 open(24)=100 open(17)=REFUSED");
            due(SHARED + "502*share(249)=0 open(3)=249");
            due(SHARED + "501*share(251)=BAD_SECRET qualified()=160 open(12)=100");
            due(SHARED + "502*open(3)=100 open(1)=REFUSED");
            due(SIX + "504*leaf(0)=STACK_HIGH gate(5,5)=2 gate(2,2)=1");
            due(FULL_ONE + "486*gate(1,1)=FULL share(8)=0 open(3)=8");
            due("clear() leaf(5)=1 ".repeat(255) + "share(6)=0 open(32)=6");
            due("leaf(5)=1 share(6)=0 open(32)=6 clear() ".repeat(127) + "leaf(1)=1 share(7)=0 open(2)=7 fewest()=1");
        });
    }

    private static int powerOfTwo(int exponent) {
        int power = 1;
        for (int i = 0; i < exponent; i++) {
            power = power * 2 % 251;
        }
        return power;
    }

    private static void terms() {
        sentence("Terms", "numbers from 0 to 250 (a number modulo 251)", () -> {
            due(PAIR_OR_TWO + "share(-1)=BAD_SECRET share(0)=0 open(3)=0 add(250)=0 open(3)=250 add(1)=0 open(3)=0");
            due(PAIR_OR_TWO + "share(251)=BAD_SECRET share(250)=0 open(24)=250 scale(250)=0 open(24)=1");
            due(PAIR_OR_TWO + "share(126)=0 scale(2)=0 open(12)=1 add(249)=0 open(12)=250 add(2)=0 open(12)=1");
        });
        sentence("Terms", "a stack of at most six formulas", () -> {
            due(SIX + "leaf(0)=STACK_HIGH gate(1,1)=6 leaf(0)=STACK_HIGH gate(1,2)=5 leaf(0)=6 leaf(0)=STACK_HIGH");
            due(SHARED_SIX + "leaf(0)=STACK_HIGH gate(1,5)=2 4*leaf(0) leaf(0)=STACK_HIGH gate(1,1)=6");
        });
        sentence("Terms", "a set fulfils it if it has that party", () -> {
            for (int party = 0; party < 8; party++) {
                due("leaf(" + party + ")=1 share(5)=0 open(0)=REFUSED open(" + (1 << party) + ")=5 open(255)=5 open("
                    + (255 - (1 << party)) + ")=REFUSED");
            }
        });
        sentence("Terms", "takes the n formulas on top of the stack (n 1 to 5)", () -> {
            for (int n = 1; n <= 5; n++) {
                int below = 6 - n;
                int after = below + 1;
                String rest = after == 6 ? "gate(5,5)=2 gate(2,2)=1 " : "gate(" + after + "," + after + ")=1 ";
                opensFor(SIX + "gate(1," + n + ")=" + after + " " + rest,
                    set -> among(set, 0, below - 1) == below && among(set, below, 5) >= 1);
            }
        });
        sentence("Terms", "a threshold k (1 to n); a set fulfils it if it fulfils at least k of these n", () -> {
            for (int n = 1; n <= 5; n++) {
                for (int k = 1; k <= n; k++) {
                    int last = n - 1;
                    int least = k;
                    opensFor(atLeast(k, n), set -> among(set, 0, last) >= least);
                }
            }
        });
        sentence("Terms", "at most 24 nodes (leaves and gates)", BoundariesTest::mostNodes);
        sentence("Terms", "The same party may stand at several leaves", () -> {
            opensFor("5*leaf(3) gate(5,5)=1 ", set -> has(set, 3));
            opensFor("leaf(1) leaf(1) leaf(2) gate(2,3)=1 ", set -> has(set, 1));
            opensFor("leaf(7) leaf(0) leaf(7) leaf(0) leaf(1) gate(4,5)=1 ", set -> has(set, 7) && has(set, 0));
            opensFor("leaf(4) gate(1,1) leaf(4) gate(2,2) leaf(4) leaf(5) gate(2,2) gate(1,2)=1 ", set -> has(set, 4));
            opensFor("leaf(6) " + "4*leaf(6) gate(5,5)=1 ".repeat(4) + "2*leaf(6) gate(3,3)=1 ", set -> has(set, 6));
        });
    }

    /** Formulas of 24 nodes, most of them leaves, with gates of every size and each party at least once. */
    private static void mostNodes() {
        String twentyOne = "leaf(0) leaf(1) leaf(2) leaf(3) leaf(4)=5 gate(3,5)=1 leaf(5) leaf(6) leaf(7) leaf(0)=5 "
            + "gate(2,4)=2 leaf(1) leaf(2) leaf(3)=5 gate(3,3)=3 leaf(4) leaf(5)=5 gate(1,2)=4 leaf(6) leaf(7)=6 "
            + "gate(2,2)=5 ";
        due(twentyOne + "leaf(0)=6 gate(1,1)=6 gate(3,5)=2 leaf(1)=FULL gate(2,2)=FULL share(1)=UNFINISHED");
        opensFor(ALL_OF_EIGHT + "leaf(0)=FULL gate(1,1)=FULL ", set -> set == 255);
        due(twentyOne + "gate(1,1)=5 gate(3,5)=1 leaf(1)=2 leaf(1)=FULL gate(2,2)=FULL");
        opensFor(twentyOne + "gate(1,1)=5 gate(3,5)=1 gate(1,1)=1 gate(1,1)=FULL leaf(1)=FULL ", set -> {
            int met = among(set, 0, 4) >= 3 ? 1 : 0;
            met += among(set, 5, 7) + among(set, 0, 0) >= 2 ? 1 : 0;
            met += among(set, 1, 3) == 3 ? 1 : 0;
            met += among(set, 4, 5) >= 1 ? 1 : 0;
            met += among(set, 6, 7) == 2 ? 1 : 0;
            return met >= 3;
        });
    }

    private static void masks() {
        sentence("Terms", "other bits are not looked at", () -> {
            for (int set : new int[] {0, 1, 3, 7, 12, 17, 24, 31, 224, 227, 255}) {
                boolean opens = among(set, 0, 1) == 2 || among(set, 2, 4) >= 2;
                boolean least = set == 3 || set == 12 || set == 24;
                StringBuilder script = new StringBuilder(SHARED);
                for (int bit = 8; bit < 32; bit++) {
                    int mask = set | 1 << bit;
                    script.append("open(" + mask + ")=" + (opens ? "100 " : "REFUSED "));
                    script.append("minimal(" + mask + ")=" + least + " ");
                    mask = set | -1 << bit;
                    script.append("open(" + mask + ")=" + (opens ? "100 " : "REFUSED "));
                    script.append("minimal(" + mask + ")=" + least + " ");
                }
                due(script.toString());
            }
            due("leaf(7)=1 share(3)=0 open(MIN)=REFUSED minimal(MIN)=false open(MAX)=3 minimal(MAX)=false open(-1)=3");
            due("leaf(0)=1 share(3)=0 open(256)=REFUSED open(257)=3 minimal(257)=true minimal(256)=false");
        });
        sentence("Terms", "The calls below change nothing that any call answers", () -> {
            for (String state : UNSHARED_STATES) {
                idle(state, "open(255)=NOT_SHARED");
                idle(state, "open(0)=NOT_SHARED");
                idle(state, "qualified()=NOT_SHARED");
                idle(state, "minimal(255)=false");
                idle(state, "fewest()=NOT_SHARED");
                idle(state, "needed()=NOT_SHARED");
            }
            for (String state : SHARED_STATES) {
                idle(state, "open(255)=100");
                idle(state, "open(3)=100");
                idle(state, "open(17)=REFUSED");
                idle(state, "open(0)=REFUSED");
                idle(state, "qualified()=160");
                idle(state, "minimal(12)=true");
                idle(state, "minimal(255)=false");
                idle(state, "minimal(0)=false");
                idle(state, "fewest()=2");
                idle(state, "needed()=0");
            }
        });
    }

    private static void aNewObject() {
        sentence("Promise 1", "An empty stack", () -> {
            due("gate(1,1)=STACK_LOW gate(5,5)=STACK_LOW share(0)=UNFINISHED leaf(0)=1");
            due("leaf(7)=1 leaf(7)=2 leaf(7)=3 leaf(7)=4 leaf(7)=5 leaf(7)=6 leaf(7)=STACK_HIGH");
        });
        sentence("Promise 1", "no nodes", () -> due("leaf(0)=1 23*gate(1,1)=1 gate(1,1)=FULL leaf(0)=FULL"));
        sentence("Promise 1", "nothing shared", () -> {
            due("open(255)=NOT_SHARED open(0)=NOT_SHARED qualified()=NOT_SHARED fewest()=NOT_SHARED");
            due("needed()=NOT_SHARED minimal(0)=false minimal(255)=false minimal(-1)=false");
            due("add(0)=NOT_SHARED scale(1)=NOT_SHARED refresh()=NOT_SHARED");
        });
        sentence("Promise 1", "'noise' changes nothing that any call answers", () -> {
            String script = SHARED_SIX + "add(200) refresh() scale(9) open(255) gate(3,5) gate(2,2) share(250) add(7) "
                + "refresh() qualified() fewest() needed() " + eachSet("open") + "gate(1,1) minimal(3) clear() open(0)";
            List<Integer> first = null;
            for (int step = 0; step < 400; step++) {
                // Near 0 one by one, then in strides through all of int.
                FormulaSharing x = new FormulaSharing(step < 200 ? step - 100 : step * 21474837);
                List<Integer> answers = new ArrayList<>();
                for (Call call : calls(script)) {
                    answers.add(call.on(x));
                }
                first = first == null ? answers : first;
                if (!answers.equals(first)) {
                    say("other noise, other answers: " + answers + " and " + first);
                }
            }
        });
        sentence("Promise 1", "A new object", () -> {
            FormulaSharing one = new FormulaSharing(1);
            FormulaSharing other = new FormulaSharing(1);
            one.leaf(0);
            one.share(5);
            if (other.open(255) != -8 || other.leaf(1) != 1 || other.share(6) != 0 || other.open(2) != 6) {
                say("the other one is not new");
            }
            if (one.open(1) != 5 || one.open(2) != -9 || one.leaf(1) != 2) {
                say("the first one has changed");
            }
        });
    }

    private static void leaf() {
        sentence("Promise 2", "party not in 0 to 7: BAD_PARTY; nothing changes then", () -> {
            due("leaf(0)=1 leaf(7)=2");
            for (int party : new int[] {-1, 8, 9, -8, 255, 256, 263, 65536, Integer.MIN_VALUE, Integer.MAX_VALUE}) {
                idle(EMPTY, "leaf(" + party + ")=BAD_PARTY");
                idle(SHARED, "leaf(" + party + ")=BAD_PARTY");
            }
            idle(ONE_LEAF, "30*leaf(8)=BAD_PARTY");
            idle(PAIR_OR_TWO, "30*leaf(-1)=BAD_PARTY");
            idle(SHARED_GROWN, "30*leaf(8)=BAD_PARTY");
        });
        sentence("Promise 2", "there are 24 nodes: FULL; nothing changes then", () -> {
            due(PAIR_OR_TWO + "15*gate(1,1)=1 leaf(7)=2 leaf(7)=FULL");
            due(SIX + "16*gate(1,1)=6 gate(1,2)=5 leaf(7)=6 leaf(7)=FULL");
            for (String state : FULL_STATES) {
                idle(state, "leaf(0)=FULL");
                idle(state, "30*leaf(7)=FULL");
            }
        });
        sentence("Promise 2", "the stack has six formulas: STACK_HIGH; nothing changes then", () -> {
            due(leaves(5) + "leaf(7)=6 leaf(7)=STACK_HIGH");
            due(SIX + "leaf(7)=STACK_HIGH 18*gate(1,1)=6 leaf(7)=FULL");
            idle(SIX, "leaf(0)=STACK_HIGH");
            idle(SIX, "30*leaf(7)=STACK_HIGH");
            idle(SHARED_SIX, "leaf(0)=STACK_HIGH");
            idle(SHARED_SIX, "30*leaf(7)=STACK_HIGH");
        });
        sentence("Promise 2", "Else answers how many formulas are on the stack", () -> {
            due(SIX + "gate(1,5)=2 leaf(0)=3 gate(1,3)=1 leaf(0)=2");
            due("leaf(7)=1 share(1)=0 leaf(7)=2 clear() leaf(7)=1");
        });
    }

    private static void gate() {
        sentence("Promise 3", "n not in 1 to 5: BAD_GATE; nothing changes then", () -> {
            due(SIX + "gate(1,1)=6 gate(1,5)=2");
            for (int n : new int[] {0, 6, 7, -1, -5, 257, 65537, Integer.MIN_VALUE, Integer.MAX_VALUE}) {
                idle(SIX, "gate(1," + n + ")=BAD_GATE");
                idle(SHARED_SIX, "gate(1," + n + ")=BAD_GATE");
                idle(SIX, "gate(" + n + "," + n + ")=BAD_GATE");
            }
            idle(EMPTY, "30*gate(0,0)=BAD_GATE");
            idle(SIX, "30*gate(6,6)=BAD_GATE");
            idle(SHARED_TWO, "30*gate(1,0)=BAD_GATE");
        });
        sentence("Promise 3", "k not in 1 to n: BAD_GATE; nothing changes then", () -> {
            for (int n = 1; n <= 5; n++) {
                int after = 7 - n;
                due(SIX + "gate(1," + n + ")=" + after);
                due(SIX + "gate(" + n + "," + n + ")=" + after);
                for (int k : new int[] {0, n + 1, -1, -n, n + 256, Integer.MIN_VALUE, Integer.MAX_VALUE}) {
                    idle(SIX, "gate(" + k + "," + n + ")=BAD_GATE");
                    idle(SHARED_SIX, "gate(" + k + "," + n + ")=BAD_GATE");
                }
            }
            idle(SIX, "30*gate(6,5)=BAD_GATE");
            idle(SHARED, "30*gate(2,1)=BAD_GATE");
        });
        sentence("Promise 3", "there are 24 nodes: FULL; nothing changes then", () -> {
            due(PAIR_OR_TWO + "15*gate(1,1)=1 gate(1,1)=1 gate(1,1)=FULL");
            due(SIX + "17*gate(1,1)=6 gate(1,5)=2 gate(2,2)=FULL");
            for (String state : FULL_STATES) {
                idle(state, "gate(1,1)=FULL");
                idle(state, "30*gate(1,1)=FULL");
            }
            idle(FULL_SIX, "gate(5,5)=FULL");
            idle(FULL_SIX_SHARED, "gate(1,2)=FULL");
        });
        sentence("Promise 3", "the stack has fewer than n: STACK_LOW; nothing changes then", () -> {
            for (int n = 1; n <= 5; n++) {
                due(leaves(n) + "gate(1," + n + ")=1");
                for (int k = 1; k <= n; k++) {
                    idle(leaves(n - 1), "gate(" + k + "," + n + ")=STACK_LOW");
                }
            }
            idle(EMPTY, "30*gate(1,5)=STACK_LOW");
            idle(CLEARED, "gate(1,1)=STACK_LOW");
            idle(SHARED, "30*gate(2,2)=STACK_LOW");
            idle(SHARED_TWO, "30*gate(1,3)=STACK_LOW");
            idle(SHARED_GROWN, "gate(1,2)=STACK_LOW");
        });
        sentence("Promise 3", "Else answers how many formulas are on the stack", () -> {
            for (int height = 1; height <= 6; height++) {
                for (int n = 1; n <= 5 && n <= height; n++) {
                    int after = height - n + 1;
                    due(leaves(height) + "gate(1," + n + ")=" + after + " gate(1,1)=" + after);
                }
            }
        });
    }

    private static void clear() {
        List<String> states = new ArrayList<>(UNSHARED_STATES);
        states.addAll(SHARED_STATES);
        sentence("Promise 4", "Empties the stack", () -> {
            for (String state : states) {
                due(state + "clear() gate(1,1)=STACK_LOW share(0)=UNFINISHED " + SIX + "leaf(0)=STACK_HIGH");
                due(state + "clear() clear() leaf(2)=1 share(3)=0 open(4)=3 open(251)=REFUSED");
            }
        });
        sentence("Promise 4", "no nodes any more", () -> {
            for (String state : states) {
                due(state + "clear() leaf(0)=1 23*gate(1,1)=1 gate(1,1)=FULL leaf(0)=FULL");
                due(state + "clear() " + SIX + "18*gate(1,1)=6 gate(1,1)=FULL");
            }
        });
        sentence("Promise 4", "what was shared is forgotten", () -> {
            for (String state : states) {
                String forgotten = "open(255)=NOT_SHARED open(0)=NOT_SHARED qualified()=NOT_SHARED minimal(3)=false "
                    + "fewest()=NOT_SHARED needed()=NOT_SHARED add(1)=NOT_SHARED scale(2)=NOT_SHARED "
                    + "refresh()=NOT_SHARED ";
                due(state + "clear() " + forgotten + PAIR_OR_TWO + forgotten + "share(0)=0 open(3)=0 open(24)=0");
                alike(state + "clear() ", EMPTY);
                alike(state + "clear() " + SHARED, SHARED);
            }
        });
    }

    private static void share() {
        sentence("Promise 5", "The stack hasn't exactly one formula: UNFINISHED; nothing changes then", () -> {
            due("leaf(0)=1 share(1)=0");
            for (int height = 0; height <= 6; height++) {
                if (height != 1) {
                    idle(leaves(height), "share(0)=UNFINISHED");
                    idle(leaves(height), "share(250)=UNFINISHED");
                }
            }
            idle(SHARED_TWO, "share(7)=UNFINISHED");
            idle(SHARED_SIX, "share(7)=UNFINISHED");
            idle(FULL_SIX_SHARED, "30*share(7)=UNFINISHED");
            idle(CLEARED, "share(7)=UNFINISHED");
        });
        sentence("Promise 5", "secret not in 0 to 250: BAD_SECRET; nothing changes then", () -> {
            due(PAIR_OR_TWO + "share(0)=0 open(3)=0 share(250)=0 open(3)=250");
            for (int secret : NOT_SECRETS) {
                idle(PAIR_OR_TWO, "share(" + secret + ")=BAD_SECRET");
                idle(SHARED, "share(" + secret + ")=BAD_SECRET");
                idle(SHARED_GROWN, "share(" + secret + ")=BAD_SECRET");
            }
        });
        sentence("Promise 5", "Else answers 0", () -> {
            for (int secret = 0; secret <= 250; secret++) {
                String shared = "share(" + secret + ")=0 open(255)=" + secret + " ";
                due(ONE_LEAF + shared);
                due(PAIR_OR_TWO + shared + "open(3)=" + secret + " open(20)=" + secret);
            }
            due(FULL_ONE + "share(0)=0 open(3)=0 share(250)=0 open(12)=250");
        });
        sentence("Promise 5", "what was shared before is forgotten", () -> {
            alike(SHARED + "share(5)=0 ", PAIR_OR_TWO + "share(5)=0 ");
            alike(SHARED + "add(7)=0 scale(3)=0 refresh()=0 share(0)=0 ", PAIR_OR_TWO + "share(0)=0 ");
            alike(SHARED + "scale(0)=0 share(100)=0 ", SHARED);
            alike(SHARED_GROWN + "share(5)=0 ", PAIR_OR_TWO + "leaf(7)=2 gate(2,2)=1 share(5)=0 ");
            due(SHARED_GROWN + "share(5)=0 open(3)=REFUSED open(131)=5 qualified()=80 needed()=1 fewest()=3");
        });
        sentence("Promise 5", "The formula stays", () -> {
            alike(SHARED, PAIR_OR_TWO, STACK_PROBES);
            alike(FULL_ONE_SHARED, FULL_ONE, STACK_PROBES);
            due(SHARED + "share(3)=0 open(3)=3 share(4)=0 open(24)=4 leaf(7)=2 gate(2,2)=1 share(5)=0 open(152)=5");
        });
    }

    private static void whatWasShared() {
        String[] afterwards = {"leaf(7)", "gate(1,1)", "leaf(0) gate(2,2)", "leaf(0) gate(1,2)", "5*leaf(7)",
            "5*leaf(0) gate(1,5)", "4*leaf(0) gate(5,5)", "16*gate(1,1)", "5*leaf(5) 11*gate(1,1)", "20*leaf(6)",
            "leaf(7) gate(1,1) leaf(7) gate(3,3) gate(1,1)"};
        sentence("Promise 5", "what was shared stays shared by the formula as it was at this call", () -> {
            for (String more : afterwards) {
                alike(SHARED + more + " ", SHARED, SHARED_PROBES);
                due(SHARED + more + " open(3)=100 open(12)=100 open(224)=REFUSED qualified()=160 fewest()=2 needed()=0 "
                    + "minimal(24)=true add(151)=0 open(3)=0 add(4)=0 scale(5)=0 refresh()=0 open(20)=20");
            }
            for (String more : new String[] {"leaf(2)", "gate(1,1)", "leaf(2) gate(1,2)", "leaf(2) gate(2,2)"}) {
                due("leaf(7)=1 share(9)=0 " + more + " open(128)=9 open(4)=REFUSED qualified()=128 minimal(128)=true");
            }
        });
        sentence("Promise 5", "until the next share or clear", () -> {
            for (String more : afterwards) {
                due(SHARED + more + " share(251) open(12)=100 share(-1) open(12)=100 clear() open(12)=NOT_SHARED");
            }
            due(SHARED_TWO + "share(9)=UNFINISHED open(3)=100 gate(2,2)=1 open(3)=100 share(9)=0 open(3)=REFUSED");
            due(SHARED_GROWN + "share(9)=0 leaf(0)=2 gate(1,2)=1 open(1)=REFUSED open(131)=9 share(8)=0 open(1)=8");
        });
    }

    private static void add() {
        sentence("Promise 6", "Adds a secret 'more' (0 to 250) to the shared one, modulo 251", () -> {
            for (int secret = 0; secret <= 250; secret++) {
                for (int more = 0; more <= 250; more++) {
                    FormulaSharing x = new FormulaSharing(secret);
                    x.leaf(2);
                    x.leaf(5);
                    x.gate(2, 2);
                    x.share(secret);
                    if (x.add(more) != 0 || x.open(36) != (secret + more) % 251) {
                        say(secret + " and " + more + " gave " + x.open(36));
                    }
                }
            }
            due(PAIR_OR_TWO + "share(250)=0 add(0)=0 open(3)=250 add(1)=0 open(3)=0 add(250)=0 open(3)=250 "
                + "add(250)=0 open(24)=249 open(9)=REFUSED");
            due(ALL_OF_EIGHT + "share(250)=0 add(1)=0 open(255)=0 add(250)=0 open(255)=250 add(99)=0 open(255)=98 "
                + "open(127)=REFUSED open(254)=REFUSED");
        });
        sentence("Promise 6", "more not in 0 to 250: BAD_SECRET; nothing changes then", () -> {
            due(SHARED + "add(0)=0 open(3)=100 add(250)=0 open(3)=99");
            for (int more : NOT_SECRETS) {
                idle(SHARED, "add(" + more + ")=BAD_SECRET");
                idle(SHARED_SIX, "add(" + more + ")=BAD_SECRET");
            }
        });
        sentence("Promise 6", "nothing is shared: NOT_SHARED; nothing changes then", () -> {
            for (String state : UNSHARED_STATES) {
                idle(state, "add(0)=NOT_SHARED");
                idle(state, "add(250)=NOT_SHARED");
            }
            due(PAIR_OR_TWO + "add(5)=NOT_SHARED share(1)=0 open(3)=1 clear() add(5)=NOT_SHARED");
        });
        sentence("Promise 6", "Else answers 0", () -> {
            for (String state : SHARED_STATES) {
                due(state + "add(0)=0 open(3)=100 add(250)=0 open(12)=99 add(125)=0 open(255)=224 open(0)=REFUSED");
            }
        });
    }

    private static void scale() {
        sentence("Promise 7", "Multiplies the shared secret by a factor, modulo 251", () -> {
            for (int secret = 0; secret <= 250; secret++) {
                for (int factor = 0; factor <= 250; factor++) {
                    FormulaSharing x = new FormulaSharing(secret);
                    x.leaf(2);
                    x.leaf(5);
                    x.gate(2, 2);
                    x.share(secret);
                    if (x.scale(factor) != 0 || x.open(36) != secret * factor % 251) {
                        say(secret + " by " + factor + " gave " + x.open(36));
                    }
                }
            }
            due(PAIR_OR_TWO + "share(250)=0 scale(1)=0 open(3)=250 scale(250)=0 open(12)=1 scale(250)=0 open(24)=250 "
                + "scale(0)=0 open(3)=0 open(9)=REFUSED scale(250)=0 open(3)=0 add(8)=0 open(3)=8 open(20)=8");
            due(ALL_OF_EIGHT + "share(250)=0 scale(1)=0 open(255)=250 scale(250)=0 open(255)=1 scale(99)=0 "
                + "open(255)=99 open(127)=REFUSED scale(0)=0 open(255)=0 open(254)=REFUSED");
        });
        sentence("Promise 7", "factor not in 0 to 250: BAD_SECRET; nothing changes then", () -> {
            due(SHARED + "scale(250)=0 open(3)=151 scale(0)=0 open(3)=0");
            for (int factor : NOT_SECRETS) {
                idle(SHARED, "scale(" + factor + ")=BAD_SECRET");
                idle(SHARED_SIX, "scale(" + factor + ")=BAD_SECRET");
            }
        });
        sentence("Promise 7", "nothing is shared: NOT_SHARED; nothing changes then", () -> {
            for (String state : UNSHARED_STATES) {
                idle(state, "scale(0)=NOT_SHARED");
                idle(state, "scale(250)=NOT_SHARED");
            }
            due(PAIR_OR_TWO + "scale(0)=NOT_SHARED share(9)=0 open(3)=9 clear() scale(1)=NOT_SHARED");
        });
        sentence("Promise 7", "Else answers 0", () -> {
            for (String state : SHARED_STATES) {
                due(state + "scale(1)=0 open(3)=100 scale(250)=0 open(12)=151 scale(0)=0 open(255)=0 open(0)=REFUSED");
            }
        });
    }

    private static void refresh() {
        sentence("Promise 8", "Changes nothing that any call answers", () -> {
            for (String state : SHARED_STATES) {
                idle(state, "refresh()=0");
                idle(state, "100*refresh()=0");
            }
            idle(SHARED + "scale(0)=0 ", "refresh()=0");
            idle(ONE_LEAF + "share(250)=0 ", "refresh()=0");
            idle(ALL_OF_EIGHT + "share(250)=0 ", "50*refresh()=0");
        });
        sentence("Promise 8", "Nothing is shared: NOT_SHARED", () -> {
            for (String state : UNSHARED_STATES) {
                idle(state, "refresh()=NOT_SHARED");
            }
            due(PAIR_OR_TWO + "refresh()=NOT_SHARED share(9)=0 refresh()=0 clear() refresh()=NOT_SHARED");
        });
        sentence("Promise 8", "Else answers 0", () -> {
            for (String state : SHARED_STATES) {
                due(state + "refresh()=0 open(3)=100 refresh()=0 open(24)=100");
            }
        });
    }

    private static void open() {
        sentence("Promise 9", "REFUSED if the set doesn't fulfil the formula", () -> {
            for (String state : SHARED_STATES) {
                due(state + "open(0)=REFUSED open(1)=REFUSED open(2)=REFUSED open(17)=REFUSED open(224)=REFUSED "
                    + "open(3)=100 open(12)=100 open(20)=100 open(24)=100 open(255)=100");
            }
            due(PAIR_OR_TWO + "share(0)=0 open(0)=REFUSED open(5)=REFUSED open(3)=0 scale(0)=0 open(5)=REFUSED");
            for (int n = 1; n <= 8; n++) {
                int all = (1 << n) - 1;
                StringBuilder oneShort = new StringBuilder(atLeast(n, n) + "share(77)=0 open(" + all + ")=77 ");
                for (int party = 0; party < n; party++) {
                    oneShort.append("open(" + (255 - (1 << party)) + ")=REFUSED ");
                }
                due(oneShort.toString());
            }
        });
        sentence("Promise 9", "NOT_SHARED if nothing is shared (tested first)", () -> {
            for (String state : UNSHARED_STATES) {
                due(state + "open(0)=NOT_SHARED open(1)=NOT_SHARED open(255)=NOT_SHARED open(-1)=NOT_SHARED "
                    + "open(MIN)=NOT_SHARED");
            }
        });
    }

    private static void notShared(String call, String answer) {
        for (String state : UNSHARED_STATES) {
            due(state + call + "=" + answer);
        }
        due(SHARED + "clear() " + call + "=" + answer + " " + PAIR_OR_TWO + call + "=" + answer);
    }

    private static void qualified() {
        sentence("Promise 10", "How many of the 256 sets fulfil the shared formula", () -> {
            int[][] counts = {{128}, {192, 64}, {224, 128, 32}, {240, 176, 80, 16}, {248, 208, 128, 48, 8}};
            for (int n = 1; n <= 5; n++) {
                for (int k = 1; k <= n; k++) {
                    due(atLeast(k, n) + "share(0)=0 qualified()=" + counts[n - 1][k - 1]);
                }
            }
            due(atLeast(1, 8) + "share(0)=0 qualified()=255");
            due(atLeast(8, 8) + "share(0)=0 qualified()=1");
            due(atLeast(7, 7) + "share(0)=0 qualified()=2");
            due("5*leaf(7) gate(5,5)=1 share(0)=0 qualified()=128");
        });
        sentence("Promise 10", "NOT_SHARED", () -> notShared("qualified()", "NOT_SHARED"));
    }

    private static void minimal() {
        sentence("Promise 11", "fulfils the shared formula, but no longer if any single one is left out", () -> {
            minimalJust(SHARED, 3, 12, 20, 24);
            minimalJust(SHARED_GROWN, 3, 12, 20, 24);
            minimalJust(FULL_ONE_SHARED, 3, 12, 20, 24);
            minimalJust(atLeast(8, 8) + "share(1)=0 ", 255);
            minimalJust(atLeast(1, 8) + "share(1)=0 ", 1, 2, 4, 8, 16, 32, 64, 128);
            minimalJust(atLeast(2, 3) + "share(0)=0 ", 3, 5, 6);
            // Sets of one and of three parties, none of them within another.
            minimalJust("leaf(0) leaf(1) leaf(2) leaf(7) gate(3,3) gate(1,2)=1 share(1)=0 ", 1, 134);
            // Party 4 stands in the formula, but no set needs it.
            minimalJust("leaf(6) leaf(4) gate(1,2) leaf(6) gate(2,2)=1 share(1)=0 ", 64);
            minimalJust("5*leaf(2) gate(5,5)=1 share(1)=0 ", 4);
        });
        sentence("Promise 11", "False if nothing is shared", () -> {
            for (int mask : new int[] {0, 1, 3, 8, 255, -1, Integer.MIN_VALUE}) {
                notShared("minimal(" + mask + ")", "false");
            }
        });
    }

    private static void minimalJust(String shared, int... sets) {
        StringBuilder script = new StringBuilder(shared);
        for (int set = 0; set < 256; set++) {
            boolean listed = false;
            for (int one : sets) {
                listed |= one == set;
            }
            script.append("minimal(" + set + ")=" + listed + " ");
        }
        due(script.toString());
    }

    private static void fewestAndNeeded() {
        sentence("Promise 12", "The least number of parties in a set that fulfils the shared formula", () -> {
            for (int n = 1; n <= 8; n++) {
                due(atLeast(n, n) + "share(0)=0 fewest()=" + n);
                due(atLeast(1, n) + "share(0)=0 fewest()=1");
            }
            for (int k = 1; k <= 5; k++) {
                due(atLeast(k, 5) + "share(0)=0 fewest()=" + k);
            }
            due("5*leaf(7) gate(5,5)=1 share(0)=0 fewest()=1");
            due("leaf(0) leaf(1) leaf(2) leaf(7) gate(3,3) gate(1,2)=1 share(1)=0 fewest()=1");
            due("leaf(0) leaf(1) leaf(1) leaf(2) leaf(2) gate(3,5)=1 share(1)=0 fewest()=2");
        });
        sentence("Promise 12", "NOT_SHARED", () -> notShared("fewest()", "NOT_SHARED"));
        sentence("Promise 13", "How many of the eight parties belong to every set that fulfils", () -> {
            for (int n = 2; n <= 8; n++) {
                due(atLeast(n, n) + "share(0)=0 needed()=" + n);
                due(atLeast(1, n) + "share(0)=0 needed()=0");
            }
            for (int party = 0; party < 8; party++) {
                due("leaf(" + party + ")=1 share(0)=0 needed()=1");
            }
            for (int k = 1; k <= 5; k++) {
                due(atLeast(k, 5) + "share(0)=0 needed()=" + (k == 5 ? 5 : 0));
            }
            due("leaf(7) leaf(6) leaf(7) gate(1,2) leaf(1) leaf(2) gate(1,2) gate(3,3)=1 share(9)=0 needed()=1");
            due("leaf(0) leaf(1) leaf(1) leaf(1) leaf(0) gate(4,5)=1 share(9)=0 needed()=2");
            due("leaf(0) leaf(1) leaf(1) leaf(1) leaf(0) gate(3,5)=1 share(9)=0 needed()=1");
        });
        sentence("Promise 13", "NOT_SHARED", () -> notShared("needed()", "NOT_SHARED"));
    }

    private static void orderOfLeafAndGate() {
        sentence("Promise 14", "leaf: BAD_PARTY before FULL before STACK_HIGH", () -> {
            for (int party : new int[] {-1, 8}) {
                String bad = "leaf(" + party + ")=BAD_PARTY";
                idle(FULL_ONE, bad);
                idle(FULL_ONE_SHARED, bad);
                idle(SIX, bad);
                idle(SHARED_SIX, bad);
                idle(FULL_SIX, bad);
                idle(FULL_SIX_SHARED, bad);
            }
            idle(FULL_SIX, "leaf(0)=FULL");
            idle(FULL_SIX_SHARED, "leaf(7)=FULL");
        });
        sentence("Promise 14", "gate: BAD_GATE before FULL before STACK_LOW", () -> {
            String[] badGates = {"gate(1,0)", "gate(1,6)", "gate(0,2)", "gate(3,2)", "gate(6,6)", "gate(0,1)"};
            for (String bad : badGates) {
                for (String state : FULL_STATES) {
                    idle(state, bad + "=BAD_GATE");
                }
                idle(EMPTY, bad + "=BAD_GATE");
                idle(SHARED, bad + "=BAD_GATE");
            }
            for (int n = 2; n <= 5; n++) {
                idle(FULL_ONE, "gate(1," + n + ")=FULL");
                idle(FULL_ONE_SHARED, "gate(" + n + "," + n + ")=FULL");
            }
        });
    }

    private static void orderOfTheOthers() {
        sentence("Promise 14", "share: UNFINISHED before BAD_SECRET", () -> {
            for (int secret : new int[] {-1, 251}) {
                String unfinished = "share(" + secret + ")=UNFINISHED";
                for (int height = 0; height <= 6; height++) {
                    if (height != 1) {
                        idle(leaves(height), unfinished);
                    }
                }
                idle(SHARED_SIX, unfinished);
                idle(FULL_SIX, unfinished);
            }
        });
        sentence("Promise 14", "add and scale: BAD_SECRET before NOT_SHARED", () -> {
            for (String state : UNSHARED_STATES) {
                for (int number : NOT_SECRETS) {
                    due(state + "add(" + number + ")=BAD_SECRET scale(" + number + ")=BAD_SECRET");
                }
                idle(state, "add(251)=BAD_SECRET");
                idle(state, "add(-1)=BAD_SECRET");
                idle(state, "scale(251)=BAD_SECRET");
                idle(state, "scale(-1)=BAD_SECRET");
            }
        });
    }
}
