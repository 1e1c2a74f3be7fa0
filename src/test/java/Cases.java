import java.io.IOException;
import java.util.ArrayList;
import java.util.List;

/** What the tests by promise share: states told as texts, rows, sentences of the document, bounds. */
abstract class Cases {
    static final int MIN = Integer.MIN_VALUE;
    static final int MAX = Integer.MAX_VALUE;

    /** The least state that there is. */
    static final String LEAST = "state corners 1 steps 1 law 0 odds 0;";

    /**
     * Name 0 goes 0 1 2 1 2 1 2 with ink 5 8 7 11 10 14 13, name 1 goes 2 1 1 1 1 1 1 with ink
     * 3 6 10 14 18 22 26, name 2 sleeps at 4; contract 0 is signed at step 1 at corner 1.
     */
    static final String TOWN = "state corners 5 steps 6 law 0 odds 3;"
            + "street 0 to 1;street 1 to 2;street 2 to 3;well 1 feeds 2;well 1 feeds 3;"
            + "name at 0 ink 5 loops 7 walks 1 walks 2;name at 2 ink 3 loops 12 walks 1;"
            + "name at 4 ink 0 loops 30;contract 0 1;contract 1 0 2;";

    /** Living at 0, 1, 2, 3 name 0 goes 0 1 2 3, 1 1 2 3, 2 1 2 3 and 3 3 2 3. */
    static final String LINE = "state corners 4 steps 3 law 0 odds 0;street 0 to 1;street 1 to 2;"
            + "street 2 to 3;name at 0 ink 9 loops 7 walks 1 walks 2 walks 3;name at 3 ink 9 loops 12;"
            + "name at 3 ink 9 loops 30;";

    final Check check;
    private Doc doc;
    private String section = "";

    Cases(Check check) {
        this.check = check;
    }

    /** A call of one number, the others fixed. */
    interface Asked {
        long of(int n);
    }

    final void due(String call, long got, long want) {
        check.due(call, got, want);
    }

    static LeashedNames nothing() {
        return new LeashedNames();
    }

    static LeashedNames with(String text, int slot, long... numbers) {
        LeashedNames x = Check.of(text);
        fill(x, slot, 3, numbers);
        return x;
    }

    static void fill(LeashedNames x, int slot, int width, long... numbers) {
        x.row(slot, width, numbers.length);
        for (int i = 0; i < numbers.length; i++) {
            x.write(slot, i, numbers[i]);
        }
    }

    /** A state's head and what follows it. */
    static String told(int corners, int steps, int law, String more) {
        return "state corners " + corners + " steps " + steps + " law " + law + " odds 0;" + more;
    }

    static String many(int times, String text) {
        return text.repeat(times);
    }

    /**
     * As many lines as a state can have. Eight corners are a ring, 7 and 0 joined five times, 7 with
     * four wells. Names 0 to 3 live at 0 to 3 and go round and round, name 4 stays at 4: name 0 comes
     * to it at steps 4, 12, 20, name 1 at 3, 11, 19, name 2 at 2, 10, 18 and name 3 at 1, 9, 17.
     */
    static String ring(int steps, int law, int odds) {
        StringBuilder text = new StringBuilder("state corners 8 steps " + steps + " law " + law + " odds " + odds + ";");
        for (int i = 0; i < 7; i++) {
            text.append("street " + i + " to " + (i + 1) + ";");
        }
        text.append(many(5, "street 7 to 0;")).append(many(4, "well 7 feeds 20;"));
        for (int name = 0; name < 5; name++) {
            text.append("name at " + name + " ink 40 loops " + (59 - name));
            for (int i = 1; i <= 8; i++) {
                text.append(" walks " + (name < 4 ? (name + i) % 8 : 4));
            }
            text.append(";");
        }
        return text + "contract 0 4;contract 1 4;contract 2 4;contract 3 4;contract 0 1;contract 0 1 4;";
    }

    /** Name 0 goes to name 1, with ink for as many steps as it likes. */
    static String wet(int steps, int odds) {
        return "state corners 2 steps " + steps + " law 0 odds " + odds + ";street 0 to 1;"
                + "name at 0 ink 40 loops 0 walks 1;name at 1 ink 40 loops 0;contract 0 1;";
    }

    // ---- texts and their faults ----

    final void faultOf(String text, int fault, int place) {
        LeashedNames x = nothing();
        due("state() of " + text, Check.tell(x, text), -4);
        due("fault(0) of " + text, x.fault(0), fault);
        due("fault(1) of " + text, x.fault(1), place);
    }

    final void noFaultIn(String text, int lines) {
        LeashedNames x = nothing();
        Check.tell(x, "a");
        due("state() of " + text, Check.tell(x, text), lines);
        due("fault(0)", x.fault(0), 0);
        due("fault(1)", x.fault(1), -1);
    }

    /** The number that stands at % in a text: what it may be at least and at most, and nothing else. */
    final void numberBounds(String text, int least, int most, int lines) {
        int place = text.indexOf('%');
        for (String inside : new String[] {"" + least, "" + most, "000000000000000" + most}) {
            noFaultIn(text.replace("%", inside), lines);
        }
        String below = "" + (least - 1);
        faultOf(text.replace("%", below), least > 0 ? 2 : 1, place);
        for (String outside : new String[] {"" + (most + 1), "2147483648", "4294967297", "18446744073709551617"}) {
            faultOf(text.replace("%", outside), 2, place);
        }
        faultOf(text.replace("%", "x"), 1, place);
        faultOf(text.replace("%", ""), 1, behindBlanks(text, place));
    }

    private static int behindBlanks(String text, int place) {
        int at = place + 1;
        while (at < text.length() && text.charAt(at) == ' ') {
            at++;
        }
        return at - 1;
    }

    // ---- sentences of the document ----

    final void read() throws IOException {
        doc = new Doc();
    }

    final void section(String key) {
        section = key;
    }

    /** A test of one sentence: broken, too, if the document has no such sentence there. */
    final void sentence(String quote, Runnable test) {
        check.begin(section + ": " + quote);
        if (!doc.quote(section, quote)) {
            check.wrong("the document does not say so there");
        }
        test.run();
        check.finish();
    }

    /** That no sentence of these sections was left out. */
    final void allQuoted(boolean ofTerms, int howMany) {
        check.begin("each sentence has a test");
        int sections = 0;
        for (String key : doc.keys()) {
            if (ofTerms != Character.isDigit(key.charAt(0))) {
                sections++;
                if (!doc.unquoted(key).isEmpty()) {
                    check.wrong(key + " says, too: " + doc.unquoted(key));
                }
            }
        }
        due("sections", sections, howMany);
        check.finish();
    }

    // ---- bounds ----

    /** Least and most are answered, what is just outside and far out is refused with the code. */
    final void bounds(String call, Asked asked, int least, int most, long code) {
        for (int n : new int[] {least, most}) {
            due(call + " of " + n + " is refused", asked.of(n) == code ? 1 : 0, 0);
        }
        refused(call, asked, least, most, code);
    }

    final void refused(String call, Asked asked, int least, int most, long code) {
        for (int n : new int[] {least - 1, most + 1, MIN, MAX}) {
            due(call + " of " + n, asked.of(n), code);
        }
    }

    /** What a state and its rows answer, to see that a call has left them as they were. */
    static List<Long> look(LeashedNames x) {
        List<Long> seen = new ArrayList<>();
        for (int what = 0; what < 12; what++) {
            seen.add((long) x.count(what));
        }
        for (int i = 0; i < x.count(4); i++) {
            for (int what = 0; what < 3; what++) {
                seen.add((long) x.street(i, what));
            }
        }
        for (int i = 0; i < x.count(0); i++) {
            seen.add((long) x.well(i));
        }
        for (int i = 0; i < x.count(6); i++) {
            lookAt(x, i, seen);
        }
        for (int i = 0; i < x.count(7); i++) {
            seen.add((long) x.contract(i));
            seen.add((long) x.signed(i));
        }
        for (int slot = 0; slot < 4; slot++) {
            seen.add((long) x.homes(slot, 0));
            seen.add((long) x.sniffs(slot));
        }
        return seen;
    }

    private static void lookAt(LeashedNames x, int name, List<Long> seen) {
        for (int what = 0; what < 4; what++) {
            seen.add((long) x.name(name, what));
        }
        for (int i = 0; i < x.name(name, 3); i++) {
            seen.add((long) x.walk(name, i));
        }
        for (int step = 0; step <= x.count(1) && step < 8; step++) {
            seen.add((long) x.at(name, step));
            seen.add((long) x.ink(name, step));
        }
    }

    final void same(String what, List<Long> got, List<Long> want) {
        due(what + ": all stays", got.equals(want) ? 0 : 1, 0);
    }
}
