/**
 * Promise by promise, with answers worked out by hand from the document: ordinary inputs, the edges
 * that it names, and wrong inputs.
 */
public final class PromiseTests extends Cases {
    /** Corners 0 to 3 on a line, 0 4 3 beside it, 5 by itself. */
    private static final String RING = "state corners 6 steps 1 law 0 odds 0;street 0 to 1;street 1 to 2;"
            + "street 2 to 3;street 0 to 4;street 4 to 3;name at 0 ink 0 loops 0;name at 3 ink 0 loops 0;"
            + "name at 2 ink 0 loops 0;name at 5 ink 0 loops 0;name at 0 ink 0 loops 0;"
            + "contract 0 1;contract 0 1 2;contract 2 3;contract 0 4;";

    /** They miss one another if both walk or both stay, and sign if one of them walks. */
    private static final String SWAP = "state corners 2 steps 4 law 0 odds 0;street 0 to 1;"
            + "name at 0 ink 9 loops 0 walks 1;name at 1 ink 9 loops 0 walks 0;contract 0 1;";

    /** Name 0 goes to name 1 at the first step from which it does not rain. */
    private static final String WET = "state corners 2 steps 9 law 0 odds 3;street 0 to 1;"
            + "name at 0 ink 9 loops 0 walks 1;name at 1 ink 9 loops 0;contract 0 1;";

    private PromiseTests(Check check) {
        super(check);
    }

    public static void main(String[] args) {
        Check check = new Check("PromiseTests");
        PromiseTests tests = new PromiseTests(check);
        for (int promise = 1; promise <= 69; promise++) {
            check.begin("promise " + promise);
            tests.run(promise);
            check.finish();
        }
        check.close();
    }

    private void run(int promise) {
        if (promise <= 23) {
            runTape(promise);
        } else if (promise <= 45) {
            runWays(promise);
        } else {
            runRest(promise);
        }
    }

    private void runTape(int promise) {
        switch (promise) {
            case 1: newObject(); break;
            case 2: feed(); break;
            case 3: end(); break;
            case 4: state(); break;
            case 5: fault(); break;
            case 6: street(); break;
            case 7: well(); break;
            case 8: name(); break;
            case 9: walk(); break;
            case 10: contract(); break;
            case 11: at(); break;
            case 12: ink(); break;
            case 13: awake(); break;
            case 14: here(); break;
            case 15: sleeps(); break;
            case 16: goes(); break;
            case 17: stuck(); break;
            case 18: sees(); break;
            case 19: drinks(); break;
            case 20: signed(); break;
            case 21: where(); break;
            case 22: signs(); break;
            default: deeds(); break;
        }
    }

    private void runWays(int promise) {
        switch (promise) {
            case 24: meets(); break;
            case 25: often(); break;
            case 26: pack(); break;
            case 27: busy(); break;
            case 28: lone(); break;
            case 29: total(); break;
            case 30: first(); break;
            case 31: lies(); break;
            case 32: thirst(); break;
            case 33: way(); break;
            case 34: reach(); break;
            case 35: soon(); break;
            case 36: gather(); break;
            case 37: hall(); break;
            case 38: cut(); break;
            case 39: cuts(); break;
            case 40: by(); break;
            case 41: law(); break;
            case 42: needs(); break;
            case 43: lives(); break;
            case 44: dig(); break;
            default: shut(); break;
        }
    }

    private void runRest(int promise) {
        switch (promise) {
            case 46: homes(); break;
            case 47: ask(); break;
            case 48: leaves(); break;
            case 49: sniffs(); break;
            case 50: next(); break;
            case 51: worth(); break;
            case 52: share(); break;
            case 53: rests(); break;
            case 54: gets(); break;
            case 55: chance(); break;
            case 56: mean(); break;
            case 57: send(); break;
            case 58: close(); break;
            case 59: undo(); break;
            case 60: anew(); break;
            case 61: drawn(); break;
            case 62: luck(); break;
            case 63: rate(); break;
            case 64: count(); break;
            case 65: image(); break;
            case 66: back(); break;
            case 67: row(); break;
            case 68: write(); break;
            default: paste(); break;
        }
    }

    // ---- the tape and the state ----

    private void newObject() {
        LeashedNames x = nothing();
        due("NONE", LeashedNames.NONE, -1);
        for (int what = 0; what < 12; what++) {
            due("count(" + what + ")", x.count(what), 0);
        }
        due("pack()", x.pack(), -2);
        due("name(0, 0)", x.name(0, 0), -2);
        due("awake(0)", x.awake(0), -2);
        due("at(0, 0)", x.at(0, 0), -2);
        due("back(0)", x.back(0), -6);
        due("write(0, 0, 0)", x.write(0, 0, 0), -6);
        due("fault(0)", x.fault(0), 0);
        due("fault(1)", x.fault(1), -1);
    }

    private void feed() {
        LeashedNames x = nothing();
        for (int i = 1; i <= 45; i++) {
            due("feed " + i, x.feed(0x20202020, 0x20202020, 0x20202020, 0x20202020, 0x0a0a0a0a), 20 * i);
        }
        due("feed 46", x.feed(0, 0, 0, 0, 0), -1);
        due("count(10)", x.count(10), 900);
        due("end(881)", x.end(881), 881);
        due("feed to 901", x.feed(0, 0, 0, 0, 0), -1);
        due("end(880)", x.end(880), 880);
        due("feed to 900", x.feed(0x20202020, 0x20202020, 0x20202020, 0x20202020, 0x20202020), 900);
        due("state() of blanks", x.state(), 0);
        due("feed", x.feed(0x2020203b, 0, 0, 0, 0), 20);
        due("state()", x.state(), -4);
        due("the highest byte first", x.fault(1), 3);
        x.feed(0x20202020, 0x20202020, 0x20202020, 0x20202020, -1);
        due("state()", x.state(), -4);
        due("the fifth number last", x.fault(1), 16);
        x.feed(0x73746174, 0x6520636f, 0x726e6572, 0x73203220, 0x73746570);
        due("two feeds", x.feed(0x73203120, 0x6c617720, 0x30206f64, 0x64732031, 0x303b2020), 40);
        due("state()", x.state(), 1);
        due("odds", x.count(3), 10);
    }

    private void end() {
        LeashedNames x = nothing();
        due("end(0)", x.end(0), 0);
        due("end(1)", x.end(1), -1);
        x.feed(0x3b3b3b3b, 0, 0, 0, 0);
        due("end(21)", x.end(21), -1);
        due("end(MAX)", x.end(MAX), -1);
        due("end(-1)", x.end(-1), -1);
        due("end(MIN)", x.end(MIN), -1);
        due("nothing happens", x.count(10), 20);
        due("end(20)", x.end(20), 20);
        due("end(7)", x.end(7), 7);
        due("count(10)", x.count(10), 7);
        due("end(8)", x.end(8), -1);
        due("end(0)", x.end(0), 0);
        due("state() of no bytes", x.state(), 0);
    }

    private void state() {
        LeashedNames x = nothing();
        due("tell", Check.tell(x, TOWN), 11);
        due("the tape is empty", x.count(10), 0);
        due("acts", x.send(0, 0, 0), 2);
        due("a fault", Check.tell(x, "state corners 2;"), -4);
        due("the tape is empty then, too", x.count(10), 0);
        due("all else stays", x.count(9), 11);
        due("acts stay", x.count(8), 1);
        due("at stays", x.at(0, 1), 0);
        due("in place of another", Check.tell(x, "state corners 3 steps 2 law 1 odds 4;street 0 to 2;"), 2);
        due("corners", x.count(0), 3);
        due("names", x.count(6), 0);
        due("wells", x.well(1), 0);
        due("nothing done", x.count(8), 0);
        x.close(0, 1);
        due("anew", Check.tell(x, "state corners 3 steps 2 law 1 odds 4;street 0 to 2;"), 2);
        due("not closed", x.street(0, 2), 0);
        due("no lines", x.state(), 0);
        due("there is none then", x.pack(), -2);
        for (int what = 0; what < 12; what++) {
            due("count(" + what + ")", x.count(what), 0);
        }
        due("no corners", x.reach(0), -2);
        due("no steps", x.awake(0), -2);
        due("blanks of both kinds, and none where tokens part",
                Check.tell(x, "\n state\ncorners3steps 2law0 odds00000000000000000009 \n;\n \n"), 1);
        due("odds", x.count(3), 9);
    }

    private void fault() {
        LeashedNames x = nothing();
        due("ahead of any, 0", x.fault(0), 0);
        due("ahead of any, 1", x.fault(1), -1);
        for (int what : new int[] {-1, 2, MIN, MAX}) {
            due("fault(" + what + ")", x.fault(what), -1);
        }
        due("a fault", Check.tell(x, " ;"), -4);
        due("fault(0)", x.fault(0), 1);
        due("fault(1)", x.fault(1), 1);
        due("fault(2)", x.fault(2), -1);
        due("later", x.state(), 0);
        due("fault(0)", x.fault(0), 0);
        due("fault(1)", x.fault(1), -1);
        Check.tape(x, "state corners 19 steps");
        x.end(15);
        due("cut behind a number", x.state(), -4);
        due("what the tape had once is not read", x.fault(0), 1);
        due("the end's place", x.fault(1), 15);
        Check.tape(x, "state cornersss");
        x.end(13);
        due("cut behind a word", x.state(), -4);
        due("the end's place", x.fault(1), 13);
        misplaced();
        outOfBounds();
        tooMany();
    }

    private void misplaced() {
        String s = "state corners 3 steps 2 law 0 odds 0;";
        int at = s.length();
        faultOf(";", 1, 0);
        faultOf("street 0 to 1;", 1, 0);
        faultOf("states corners 3", 1, 0);
        faultOf("stat", 1, 0);
        faultOf("7", 1, 0);
        faultOf("State", 1, 0);
        faultOf("\t", 1, 0);
        faultOf("state corners", 1, 13);
        faultOf("state corners  \n", 1, 16);
        faultOf("state steps", 1, 6);
        faultOf("state corners 3 steps 2 law 0 odds 0", 1, at - 1);
        faultOf("state corners 3 steps 2 law 0 odds 0 ", 1, at);
        faultOf("state corners 3 steps 2 law 0 odds;", 1, at - 3);
        faultOf("state corners -3", 1, 14);
        faultOf("state corners three", 1, 14);
        faultOf(s + s, 1, at);
        faultOf(s + ";", 1, at);
        faultOf(s + "city", 1, at);
        faultOf(s + "corners 3;", 1, at);
        faultOf(s + "streetz 0 to 1;", 1, at);
        faultOf(s + "streeta 0 to 1;", 1, at);
        faultOf(s + "stree 0 to 1;", 1, at);
        faultOf(s + "atreet 0 to 1;", 1, at);
        faultOf(s + "street 0 1;", 1, at + 9);
        faultOf(s + "street 0 to;", 1, at + 11);
        faultOf(s + "street 0 to 1 to 2;", 1, at + 14);
        faultOf(s + "street 0 to 1\u00ff;", 1, at + 13);
        faultOf(s + "name at 0 ink 1;", 1, at + 15);
        faultOf(s + "name at 0 ink 1 loops 0 walks;", 1, at + 29);
        faultOf(s + "name at 0 ink 1 loops 0 1;", 1, at + 24);
        faultOf(s + "name at 0 ink 1 loops 0;name at 0 ink 1 loops 0;contract 0;", 1, at + 58);
        String n = s + many(5, "name at 0 ink 1 loops 0;");
        faultOf(n + "contract 0 1 2 3;", 1, n.length() + 15);
        faultOf(n + "contract zero", 1, n.length() + 9);
        noFaultIn(s + "\n\n", 1);
        noFaultIn(n + "contract 4 0 2;contract 1 0;", 8);
    }

    private void outOfBounds() {
        String s = "state corners 3 steps 2 law 0 odds 0;";
        int at = s.length();
        faultOf("state corners 0 steps", 2, 14);
        faultOf("state corners 9 steps", 2, 14);
        faultOf("state corners 4294967297 steps", 2, 14);
        faultOf("state corners 18446744073709551617 steps", 2, 14);
        faultOf("state corners 1 steps 0", 2, 22);
        faultOf("state corners 1 steps 21", 2, 22);
        faultOf("state corners 1 steps 20 law 4", 2, 29);
        faultOf("state corners 1 steps 20 law 0 odds 11", 2, 36);
        noFaultIn("state corners 8 steps 20 law 3 odds 10;", 1);
        noFaultIn("state corners 1 steps 1 law 0 odds 0;", 1);
        faultOf(s + "street 3 to 0;", 2, at + 7);
        faultOf(s + "street 0 to 3;", 2, at + 12);
        faultOf(s + "street 2 to 2;", 2, at + 12);
        faultOf(s + "well 3 feeds 1;", 2, at + 5);
        faultOf(s + "well 2 feeds 0;", 2, at + 13);
        faultOf(s + "well 2 feeds 21;", 2, at + 13);
        noFaultIn(s + "well 2 feeds 20;well 0 feeds 1;", 3);
        faultOf(s + "name at 3 ink 0 loops 0;", 2, at + 8);
        faultOf(s + "name at 2 ink 41 loops 0;", 2, at + 14);
        faultOf(s + "name at 2 ink 40 loops 60;", 2, at + 23);
        noFaultIn(s + "name at 2 ink 40 loops 59 walks 2;", 2);
        faultOf(s + "name at 2 ink 40 loops 59 walks 0 walks 3;", 2, at + 40);
        faultOf(s + "contract 0 1;", 2, at + 9);
        String n = s + many(2, "name at 0 ink 1 loops 0;");
        faultOf(n + "contract 0 0;", 2, n.length() + 11);
        faultOf(n + "contract 0 1 1;", 2, n.length() + 13);
        faultOf(n + "contract 0 1 0;", 2, n.length() + 13);
        faultOf(n + "contract 0 1 2;", 2, n.length() + 13);
        faultOf(n + "contract 0 1 3;", 2, n.length() + 13);
        faultOf(n + "contract 2 1;", 2, n.length() + 9);
        faultOf(n + "contract 0 2;name at 0 ink 1 loops 0;", 2, n.length() + 11);
        faultOf(n + "contract 0 0 zero?", 2, n.length() + 11);
    }

    private void tooMany() {
        String s = "state corners 3 steps 2 law 0 odds 0;";
        String streets = s + many(12, "street 0 to 1;");
        noFaultIn(streets, 13);
        faultOf(streets + "street 0 to 0;", 3, streets.length());
        faultOf(streets + "streets", 1, streets.length());
        String wells = s + many(4, "well 1 feeds 1;");
        noFaultIn(wells, 5);
        faultOf(wells + " well", 3, wells.length() + 1);
        String names = s + many(5, "name at 0 ink 1 loops 0;");
        noFaultIn(names, 6);
        faultOf(names + "name", 3, names.length());
        String contracts = names + many(6, "contract 1 2;");
        noFaultIn(contracts, 12);
        faultOf(contracts + "contract 1 1;", 3, contracts.length());
        String walks = s + "name at 0 ink 1 loops 0" + many(8, " walks 1");
        noFaultIn(walks + ";", 2);
        faultOf(walks + " walks 9;", 3, walks.length() + 1);
        faultOf(walks + " 1;", 1, walks.length() + 1);
    }

    private void street() {
        LeashedNames x = Check.of(told(4, 1, 0, "street 3 to 1;street 0 to 2;"));
        due("street(0, 0)", x.street(0, 0), 3);
        due("street(0, 1)", x.street(0, 1), 1);
        due("street(1, 0)", x.street(1, 0), 0);
        due("street(1, 1)", x.street(1, 1), 2);
        due("street(1, 2)", x.street(1, 2), 0);
        x.close(1, 1);
        due("closed", x.street(1, 2), 1);
        due("the other is not", x.street(0, 2), 0);
        x.close(1, 0);
        due("open again", x.street(1, 2), 0);
        for (int wrong : new int[] {-1, 2, 12, MIN, MAX}) {
            due("street(" + wrong + ", 0)", x.street(wrong, 0), -2);
            due("street(0, " + wrong + ")", x.street(0, wrong == 2 ? 3 : wrong), -2);
        }
    }

    private void well() {
        LeashedNames x = Check.of(told(3, 1, 0, "well 2 feeds 20;well 0 feeds 1;well 2 feeds 7;"));
        due("well(0)", x.well(0), 1);
        due("well(1)", x.well(1), 0);
        due("well(2)", x.well(2), 27);
        for (int wrong : new int[] {-1, 3, 8, MIN, MAX}) {
            due("well(" + wrong + ")", x.well(wrong), -2);
        }
        Check.tell(x, told(3, 1, 0, ""));
        due("no well is left", x.well(2), 0);
        due("no state", nothing().well(0), -2);
    }

    private void name() {
        LeashedNames x = Check.of(TOWN);
        int[][] want = {{0, 5, 7, 2}, {2, 3, 12, 1}, {4, 0, 30, 0}};
        for (int name = 0; name < 3; name++) {
            for (int what = 0; what < 4; what++) {
                due("name(" + name + ", " + what + ")", x.name(name, what), want[name][what]);
            }
        }
        x.send(0, 0, 0);
        due("where it lives stays", x.name(0, 0), 0);
        for (int wrong : new int[] {-1, 3, 4, 5, MIN, MAX}) {
            due("name(" + wrong + ", 0)", x.name(wrong, 0), -2);
        }
        for (int wrong : new int[] {-1, 4, MIN, MAX}) {
            due("name(0, " + wrong + ")", x.name(0, wrong), -2);
        }
    }

    private void walk() {
        LeashedNames x = Check.of(told(8, 1, 0, "name at 0 ink 1 loops 0 walks 7 walks 6 walks 5 walks 4"
                + " walks 3 walks 2 walks 1 walks 0;name at 0 ink 1 loops 0 walks 5;name at 0 ink 1 loops 0;"));
        for (int i = 0; i < 8; i++) {
            due("walk(0, " + i + ")", x.walk(0, i), 7 - i);
        }
        due("walk(1, 0)", x.walk(1, 0), 5);
        due("not round it", x.walk(1, 1), -2);
        due("walk(2, 0)", x.walk(2, 0), -2);
        for (int wrong : new int[] {-1, 8, MIN, MAX}) {
            due("walk(0, " + wrong + ")", x.walk(0, wrong), -2);
            due("walk(" + wrong + ", 0)", x.walk(wrong, 0), -2);
        }
        due("walk(3, 0)", x.walk(3, 0), -2);
    }

    private void contract() {
        LeashedNames x = Check.of(told(1, 1, 0, many(5, "name at 0 ink 1 loops 0;") + "contract 4 0;contract 1 3 2;"));
        due("contract(0)", x.contract(0), 17);
        due("contract(1)", x.contract(1), 14);
        for (int wrong : new int[] {-1, 2, 6, MIN, MAX}) {
            due("contract(" + wrong + ")", x.contract(wrong), -2);
        }
    }

    // ---- who is where, awake, signs what ----

    private void at() {
        LeashedNames x = Check.of(TOWN);
        int[][] want = {{0, 1, 2, 1, 2, 1, 2}, {2, 1, 1, 1, 1, 1, 1}, {4, 4, 4, 4, 4, 4, 4}};
        for (int name = 0; name < 3; name++) {
            for (int step = 0; step <= 6; step++) {
                due("at(" + name + ", " + step + ")", x.at(name, step), want[name][step]);
            }
        }
        for (int wrong : new int[] {-1, 7, 20, MIN, MAX}) {
            due("at(0, " + wrong + ")", x.at(0, wrong), -2);
            due("at(" + wrong + ", 0)", x.at(wrong, 0), -2);
        }
        due("at(3, 0)", x.at(3, 0), -2);
        LeashedNames y = Check.of(told(3, 4, 0, "street 1 to 0;street 1 to 2;name at 0 ink 2 loops 0 walks 1 walks 2;"
                + "name at 0 ink 9 loops 0 walks 2 walks 1;"));
        due("asleep it stays", y.at(0, 4), 2);
        due("no street, and the walk counts on", y.at(1, 1), 0);
        due("a street", y.at(1, 2), 1);
        due("round its walk", y.at(1, 3), 2);
        y.close(0, 1);
        due("closed: it stays", y.at(0, 2), 0);
        LeashedNames z = Check.of(told(2, 4, 0, "street 0 to 1;well 1 feeds 2;name at 0 ink 1 loops 0 walks 1 walks 0;"));
        due("awake by a well", z.at(0, 2), 0);
        due("asleep at last", z.at(0, 4), 0);
    }

    private void ink() {
        LeashedNames x = Check.of(TOWN);
        int[][] want = {{5, 8, 7, 11, 10, 14, 13}, {3, 6, 10, 14, 18, 22, 26}, {0, 0, 0, 0, 0, 0, 0}};
        for (int name = 0; name < 3; name++) {
            for (int step = 0; step <= 6; step++) {
                due("ink(" + name + ", " + step + ")", x.ink(name, step), want[name][step]);
            }
        }
        for (int wrong : new int[] {-1, 7, 20, MIN, MAX}) {
            due("ink(0, " + wrong + ")", x.ink(0, wrong), -2);
            due("ink(" + wrong + ", 0)", x.ink(wrong, 0), -2);
        }
        LeashedNames y = Check.of(told(1, 2, 0, many(4, "well 0 feeds 20;") + "name at 0 ink 0 loops 0;"
                + "name at 0 ink 40 loops 0;contract 0 1;"));
        due("fed at step 0, 60 at most, less what it signs", y.ink(0, 0), 59);
        due("fed again", y.ink(0, 1), 60);
        due("60 at most", y.ink(1, 2), 60);
        LeashedNames z = Check.of(told(1, 2, 0, "name at 0 ink 1 loops 0;"));
        due("told", z.ink(0, 0), 1);
        due("less 1", z.ink(0, 1), 0);
        due("not below 0", z.ink(0, 2), 0);
    }

    private void awake() {
        LeashedNames x = Check.of(TOWN);
        due("awake(0)", x.awake(0), 3);
        due("awake(6)", x.awake(6), 3);
        for (int wrong : new int[] {-1, 7, MIN, MAX}) {
            due("awake(" + wrong + ")", x.awake(wrong), -2);
        }
        due("no state", nothing().awake(0), -2);
        LeashedNames y = Check.of(told(2, 3, 0, "name at 0 ink 1 loops 0;name at 0 ink 3 loops 0;name at 1 ink 2 loops 0;"
                + "contract 0 1;"));
        due("at the end of a step, with what is signed", y.awake(0), 6);
        due("y.awake(1)", y.awake(1), 6);
        due("y.awake(2)", y.awake(2), 0);
    }

    private void here() {
        LeashedNames x = Check.of(TOWN);
        due("here(0, 0)", x.here(0, 0), 1);
        due("here(2, 0)", x.here(2, 0), 2);
        due("here(4, 6)", x.here(4, 6), 4);
        due("here(1, 1)", x.here(1, 1), 3);
        due("here(3, 3)", x.here(3, 3), 0);
        for (int wrong : new int[] {-1, 7, 8, MIN, MAX}) {
            due("here(0, " + wrong + ")", x.here(0, wrong), -2);
            due("here(" + wrong + ", 0)", x.here(wrong, 0), -2);
        }
        due("here(5, 0)", x.here(5, 0), -2);
        due("no state", nothing().here(0, 0), -2);
    }

    private void sleeps() {
        LeashedNames x = Check.of(TOWN);
        due("sleeps(0)", x.sleeps(0), -1);
        due("sleeps(2)", x.sleeps(2), 0);
        due("sleeps(3)", x.sleeps(3), -2);
        due("sleeps(-1)", x.sleeps(-1), -2);
        LeashedNames y = Check.of(told(2, 3, 0, "street 0 to 1;well 1 feeds 5;name at 0 ink 2 loops 0;"
                + "name at 0 ink 3 loops 0;name at 0 ink 4 loops 0;name at 1 ink 0 loops 0;contract 0 1;"));
        due("less what it signs", y.sleeps(0), 1);
        due("sleeps(1)", y.sleeps(1), 2);
        due("at none", y.sleeps(2), -1);
        due("fed at step 0", y.sleeps(3), -1);
    }

    private void goes() {
        LeashedNames x = Check.of(TOWN);
        due("goes(0)", x.goes(0), 6);
        due("goes(1)", x.goes(1), 1);
        due("goes(2)", x.goes(2), 0);
        due("goes(3)", x.goes(3), -2);
        due("goes(-1)", x.goes(-1), -2);
        due("goes(MAX)", x.goes(MAX), -2);
        x.send(0, 1, 1);
        due("sent to where it is", x.goes(0), 4);
        x.close(0, 1);
        due("closed", x.goes(0), 0);
    }

    private void stuck() {
        LeashedNames x = Check.of(TOWN);
        due("stuck(0)", x.stuck(0), 0);
        due("a walk to where it is", x.stuck(1), 0);
        due("stuck(3)", x.stuck(3), -2);
        due("stuck(-1)", x.stuck(-1), -2);
        x.close(0, 1);
        due("closed, from each of five steps with ink", x.stuck(0), 5);
        x.send(0, 0, 0);
        due("sent to where it is", x.stuck(0), 4);
        x.send(0, 4, 0);
        due("sent to another", x.stuck(0), 5);
        LeashedNames y = Check.of(told(2, 6, 0, "name at 0 ink 2 loops 0 walks 1;"));
        due("awake alone", y.stuck(0), 2);
    }

    private void sees() {
        LeashedNames x = Check.of(TOWN);
        due("sees(0)", x.sees(0), 7);
        due("sees(1)", x.sees(1), 6);
        due("sees(2)", x.sees(2), 16);
        due("sees(3)", x.sees(3), -2);
        due("sees(-1)", x.sees(-1), -2);
        due("sees(MIN)", x.sees(MIN), -2);
    }

    private void drinks() {
        LeashedNames x = Check.of(TOWN);
        due("drinks(0)", x.drinks(0), 15);
        due("drinks(1)", x.drinks(1), 30);
        due("drinks(2)", x.drinks(2), 0);
        due("drinks(3)", x.drinks(3), -2);
        due("drinks(-1)", x.drinks(-1), -2);
        LeashedNames y = Check.of(told(1, 2, 0, "well 0 feeds 15;name at 0 ink 40 loops 0;name at 0 ink 30 loops 0;"
                + "contract 0 1;"));
        due("15, then 55 - 1 - 1 and 7, then 1", y.drinks(0), 23);
        due("at step 0, too: 15, 15 and 3", y.drinks(1), 33);
    }

    private void signed() {
        LeashedNames x = Check.of(TOWN);
        due("signed(0)", x.signed(0), 1);
        due("signed(1)", x.signed(1), -1);
        due("signed(2)", x.signed(2), -2);
        due("signed(-1)", x.signed(-1), -2);
        LeashedNames y = Check.of(told(1, 2, 0, "name at 0 ink 1 loops 0;name at 0 ink 3 loops 0;name at 0 ink 3 loops 0;"
                + "contract 0 1;contract 0 2;contract 1 2;"));
        due("by numbers", y.signed(0), 0);
        due("no ink is left", y.signed(1), -1);
        due("in the same step", y.signed(2), 0);
        String three = many(2, "name at 0 ink 9 loops 0;") + "name at 0 ink 2 loops 0;contract 0 1;contract 0 2;";
        due("law 1, another is awake", Check.of(told(1, 3, 1, three)).signed(0), 2);
        due("law 2, one at a corner and step", Check.of(told(1, 3, 2, three)).signed(1), 1);
        due("law 3, one by a name and step", Check.of(told(1, 3, 3, three)).signed(1), 1);
        due("law 0", Check.of(told(1, 3, 0, three)).signed(1), 0);
        String apart = many(2, "name at 0 ink 9 loops 0;") + many(2, "name at 1 ink 9 loops 0;") + "contract 0 1;contract 2 3;";
        due("law 2, another corner", Check.of(told(2, 3, 2, apart)).signed(1), 0);
        String both = many(4, "name at 0 ink 9 loops 0;") + "contract 0 1;contract 2 3;";
        due("law 3, other names", Check.of(told(2, 3, 3, both)).signed(1), 0);
        due("law 2, the same corner", Check.of(told(2, 3, 2, both)).signed(1), 1);
        String signing = many(2, "name at 0 ink 9 loops 0;") + "name at 0 ink 1 loops 0;contract 0 1 2;contract 0 1;";
        due("law 1, the other has just spent its ink", Check.of(told(1, 3, 1, signing)).signed(1), 0);
    }

    private void where() {
        LeashedNames x = Check.of(TOWN);
        due("where(0)", x.where(0), 1);
        due("where(1)", x.where(1), -1);
        due("where(2)", x.where(2), -2);
        due("where(-1)", x.where(-1), -2);
        due("where(MAX)", x.where(MAX), -2);
        LeashedNames y = Check.of(told(4, 2, 0, many(3, "name at 3 ink 1 loops 0;") + "contract 2 1 0;"));
        due("at step 0", y.where(0), 3);
    }

    private void signs() {
        LeashedNames x = Check.of(TOWN);
        due("signs(0)", x.signs(0), 0);
        due("signs(1)", x.signs(1), 1);
        due("to a step", x.signs(6), 1);
        due("signs(7)", x.signs(7), -2);
        due("signs(-1)", x.signs(-1), -2);
        due("no state", nothing().signs(0), -2);
        LeashedNames y = Check.of(told(1, 3, 2, many(2, "name at 0 ink 9 loops 0;") + many(3, "contract 0 1;")));
        due("y.signs(0)", y.signs(0), 1);
        due("y.signs(1)", y.signs(1), 3);
        due("y.signs(2)", y.signs(2), 7);
        due("y.signs(3)", y.signs(3), 7);
    }

    private void deeds() {
        LeashedNames x = Check.of(TOWN);
        due("deeds(0)", x.deeds(0), 1);
        due("deeds(2)", x.deeds(2), 0);
        due("deeds(3)", x.deeds(3), -2);
        due("deeds(-1)", x.deeds(-1), -2);
        LeashedNames y = Check.of(told(1, 2, 0, many(3, "name at 0 ink 9 loops 0;") + many(2, "contract 0 1;")
                + "contract 1 2;contract 0 1 2;"));
        due("deeds(0)", y.deeds(0), 3);
        due("deeds(1)", y.deeds(1), 4);
        due("deeds(2)", y.deeds(2), 2);
    }

    private void meets() {
        LeashedNames x = Check.of(TOWN);
        due("meets(0, 1)", x.meets(0, 1), 1);
        due("meets(1, 0)", x.meets(1, 0), 1);
        due("never", x.meets(0, 2), -1);
        due("one twice", x.meets(2, 2), 0);
        due("meets(0, 3)", x.meets(0, 3), -2);
        due("meets(-1, 0)", x.meets(-1, 0), -2);
        due("meets(3, 3)", x.meets(3, 3), -2);
    }

    private void often() {
        LeashedNames x = Check.of(TOWN);
        due("often(0, 1)", x.often(0, 1), 3);
        due("often(0, 2)", x.often(0, 2), 0);
        due("one twice", x.often(1, 1), 7);
        due("often(0, 3)", x.often(0, 3), -2);
        due("often(-1, 0)", x.often(-1, 0), -2);
    }

    private void pack() {
        due("two", Check.of(TOWN).pack(), 2);
        due("no state", nothing().pack(), -2);
        due("no name", Check.of(told(3, 2, 0, "")).pack(), 0);
        due("at the last step", Check.of(told(3, 1, 0, "street 0 to 1;street 2 to 1;name at 0 ink 1 loops 0 walks 1;"
                + "name at 2 ink 1 loops 0 walks 1;name at 1 ink 0 loops 0;")).pack(), 3);
        due("one", Check.of(told(3, 1, 0, "name at 0 ink 1 loops 0;name at 1 ink 1 loops 0;")).pack(), 1);
    }

    private void busy() {
        due("corner 1", Check.of(TOWN).busy(), 1);
        due("no state", nothing().busy(), -2);
        due("the least of several", Check.of(told(4, 2, 0, "name at 3 ink 0 loops 0;name at 1 ink 0 loops 0;")).busy(), 1);
        due("no name", Check.of(told(4, 2, 0, "")).busy(), 0);
        due("all steps together", Check.of(told(3, 4, 0, "street 0 to 2;name at 0 ink 9 loops 0 walks 2;"
                + "name at 0 ink 9 loops 0 walks 2;name at 1 ink 0 loops 0;")).busy(), 2);
    }

    private void lone() {
        LeashedNames x = Check.of(TOWN);
        due("lone(0)", x.lone(0), 7);
        due("lone(1)", x.lone(1), 4);
        due("lone(2)", x.lone(2), 7);
        due("lone(7)", x.lone(7), -2);
        due("lone(-1)", x.lone(-1), -2);
        due("no state", nothing().lone(0), -2);
        due("no name", Check.of(told(1, 1, 0, "")).lone(1), 0);
    }

    private void total() {
        LeashedNames x = Check.of(TOWN);
        due("total(0)", x.total(0), 8);
        due("total(1)", x.total(1), 14);
        due("total(6)", x.total(6), 39);
        due("total(7)", x.total(7), -2);
        due("total(-1)", x.total(-1), -2);
        due("no state", nothing().total(0), -2);
    }

    private void first() {
        due("first()", Check.of(TOWN).first(), 1);
        due("no state", nothing().first(), -2);
        due("no contract", Check.of(told(1, 1, 0, "")).first(), -1);
        due("none signed", Check.of(told(1, 1, 0, many(2, "name at 0 ink 0 loops 0;") + "contract 0 1;")).first(), -1);
        due("at step 0", Check.of(told(1, 1, 0, many(2, "name at 0 ink 1 loops 0;") + many(2, "contract 0 1;"))).first(), 0);
        due("not of contract 0", Check.of(told(2, 2, 0, "street 0 to 1;name at 0 ink 9 loops 0 walks 0 walks 1;"
                + "name at 1 ink 9 loops 0;name at 0 ink 9 loops 0 walks 1;contract 0 1;contract 1 2;")).first(), 1);
    }

    private void lies() {
        LeashedNames x = Check.of(TOWN);
        due("lies(0)", x.lies(0), 1);
        due("lies(1)", x.lies(1), -1);
        due("lies(2)", x.lies(2), -2);
        due("lies(-1)", x.lies(-1), -2);
        LeashedNames y = Check.of(told(2, 2, 0, "street 0 to 1;name at 0 ink 1 loops 0 walks 1;name at 1 ink 0 loops 0;"
                + "contract 0 1;"));
        due("asleep, too", y.lies(0), 1);
        due("it is not signed", y.signed(0), -1);
    }

    private void thirst() {
        due("thirst()", Check.of(TOWN).thirst(), 2);
        due("no state", nothing().thirst(), -2);
        due("no name", Check.of(told(1, 1, 0, "")).thirst(), -1);
        due("none ever", Check.of(told(1, 1, 0, "name at 0 ink 2 loops 0;")).thirst(), -1);
        due("the earliest", Check.of(told(1, 9, 0, "name at 0 ink 3 loops 0;name at 0 ink 2 loops 0;")).thirst(), 1);
        due("the first of several", Check.of(told(1, 9, 0, "name at 0 ink 9 loops 0;"
                + many(2, "name at 0 ink 2 loops 0;"))).thirst(), 1);
        due("at the last step", Check.of(told(1, 2, 0, "name at 0 ink 2 loops 0;")).thirst(), 0);
    }

    // ---- ways ----

    private void way() {
        LeashedNames x = Check.of(RING);
        due("way(0, 3)", x.way(0, 3), 2);
        due("way(3, 0)", x.way(3, 0), 2);
        due("way(0, 1)", x.way(0, 1), 1);
        due("way(2, 2)", x.way(2, 2), 0);
        due("way(0, 5)", x.way(0, 5), -1);
        x.close(4, 1);
        due("closed ones are none", x.way(0, 3), 3);
        due("way(0, 6)", x.way(0, 6), -2);
        due("way(-1, 0)", x.way(-1, 0), -2);
        due("way(MAX, MIN)", x.way(MAX, MIN), -2);
        LeashedNames y = Check.of(told(8, 1, 0, "street 0 to 1;street 1 to 2;street 2 to 3;street 3 to 4;street 4 to 5;"
                + "street 5 to 6;street 6 to 7;"));
        due("the longest", y.way(7, 0), 7);
        due("no state", nothing().way(0, 0), -2);
    }

    private void reach() {
        LeashedNames x = Check.of(RING);
        due("reach(0)", x.reach(0), 31);
        due("reach(5)", x.reach(5), 32);
        x.close(0, 1);
        due("another way", x.reach(0), 31);
        x.close(4, 1);
        due("reach(0)", x.reach(0), 17);
        due("reach(3)", x.reach(3), 14);
        due("reach(6)", x.reach(6), -2);
        due("reach(-1)", x.reach(-1), -2);
        due("no state", nothing().reach(0), -2);
    }

    private void soon() {
        LeashedNames x = Check.of(RING);
        due("two streets", x.soon(0, 1), 1);
        due("one street", x.soon(1, 2), 1);
        due("never", x.soon(0, 3), -1);
        due("at one corner", x.soon(0, 4), 0);
        due("one twice", x.soon(3, 3), 0);
        x.close(4, 1);
        due("three streets", x.soon(0, 1), 2);
        due("soon(0, 5)", x.soon(0, 5), -2);
        due("soon(-1, 0)", x.soon(-1, 0), -2);
    }

    private void gather() {
        LeashedNames x = Check.of(RING);
        due("gather(0)", x.gather(0), 1);
        due("three of them", x.gather(1), 2);
        due("never", x.gather(2), -1);
        due("at once", x.gather(3), 0);
        due("gather(4)", x.gather(4), -2);
        due("gather(-1)", x.gather(-1), -2);
        x.close(3, 1);
        due("closed", x.gather(0), 2);
    }

    private void hall() {
        LeashedNames x = Check.of(RING);
        due("hall(0)", x.hall(0), 4);
        due("the least of several", x.hall(1), 0);
        due("never", x.hall(2), -1);
        due("where they live", x.hall(3), 0);
        due("hall(4)", x.hall(4), -2);
        due("hall(-1)", x.hall(-1), -2);
        x.close(3, 1);
        due("closed", x.hall(0), 1);
    }

    private static LeashedNames parallel() {
        return Check.of(told(5, 1, 0, "street 0 to 1;street 1 to 0;street 1 to 2;street 2 to 3;name at 0 ink 0 loops 0;"
                + "name at 1 ink 0 loops 0;name at 3 ink 0 loops 0;name at 0 ink 0 loops 0;name at 4 ink 0 loops 0;"));
    }

    private void cut() {
        LeashedNames x = parallel();
        due("both streets", x.cut(0, 1), 2);
        due("one", x.cut(0, 2), 1);
        due("at one corner", x.cut(0, 3), -1);
        due("apart already", x.cut(0, 4), 0);
        due("one twice", x.cut(1, 1), -2);
        due("cut(0, 5)", x.cut(0, 5), -2);
        due("cut(-1, 0)", x.cut(-1, 0), -2);
        x.close(0, 1);
        due("of open ones", x.cut(0, 1), 1);
        LeashedNames y = Check.of(told(2, 1, 0, many(12, "street 0 to 1;") + "name at 0 ink 0 loops 0;name at 1 ink 0 loops 0;"));
        due("all of them", y.cut(0, 1), 12);
    }

    private void cuts() {
        LeashedNames x = parallel();
        due("both streets", x.cuts(0, 1), 3);
        due("the least set", x.cuts(0, 2), 4);
        due("at one corner", x.cuts(0, 3), -1);
        due("apart already", x.cuts(4, 0), 0);
        due("one twice", x.cuts(1, 1), -2);
        due("cuts(5, 0)", x.cuts(5, 0), -2);
        x.close(0, 1);
        due("of open ones", x.cuts(1, 0), 2);
        LeashedNames y = Check.of(told(2, 1, 0, many(12, "street 0 to 1;") + "name at 0 ink 0 loops 0;name at 1 ink 0 loops 0;"));
        due("all of them", y.cuts(0, 1), 4095);
    }

    // ---- something in place of what is told ----

    /** Five names at one corner: by the laws 3, 0, 2 and 2 are signed, with ink 1 each 2, 0, 1 and 2. */
    private static final String LAWS = many(5, "name at 0 ink 2 loops 0;") + "contract 0 1;contract 0 2;contract 3 4;";

    private void by() {
        LeashedNames x = Check.of(told(1, 1, 1, LAWS));
        due("by(0)", x.by(0), 3);
        due("by(1)", x.by(1), 0);
        due("by(2)", x.by(2), 2);
        due("by(3)", x.by(3), 2);
        LeashedNames y = Check.of(told(1, 1, 1, LAWS.replace("ink 2", "ink 1")));
        due("ink 1, by(0)", y.by(0), 2);
        due("ink 1, by(1)", y.by(1), 0);
        due("ink 1, by(2)", y.by(2), 1);
        due("ink 1, by(3)", y.by(3), 2);
        due("the law told stays", x.count(2), 1);
        due("and what is signed", x.signs(1), 0);
        due("by(4)", x.by(4), -2);
        due("by(-1)", x.by(-1), -2);
        due("no state", nothing().by(0), -2);
    }

    private void law() {
        due("law()", Check.of(told(1, 1, 1, LAWS)).law(), 0);
        due("the least of several", Check.of(told(1, 1, 3, "")).law(), 0);
        due("no state", nothing().law(), -2);
        String spent = "name at 0 ink 1 loops 0;name at 0 ink 9 loops 0;name at 0 ink 9 loops 0;name at 0 ink 3 loops 0;"
                + "contract 0 3;contract 1 2 3;contract 1 2 3;";
        due("no law is better", Check.of(told(1, 9, 2, spent)).law(), 0);
        String hinders = "street 0 to 1;name at 0 ink 1 loops 0;name at 0 ink 1 loops 0;name at 0 ink 1 loops 0;"
                + "name at 1 ink 3 loops 0 walks 0;contract 0 1 2;contract 0 3;contract 1 3;contract 2 3;";
        due("law 0 signs the first, law 1, too", Check.of(told(2, 9, 0, hinders)).law(), 0);
        String better = "street 0 to 1;well 1 feeds 1;name at 0 ink 2 loops 0 walks 1;name at 0 ink 2 loops 0 walks 1;"
                + "name at 0 ink 40 loops 0;contract 0 1 2;contract 0 1;contract 0 1;contract 0 1;contract 0 1;";
        LeashedNames x = Check.of(told(2, 4, 0, better));
        due("law 0 spends the ink of two at once", x.by(0), 2);
        due("laws 1 and 2 sign all", x.by(2), 5);
        due("the least of these", x.law(), 1);
        String last = better.replace("name at 0 ink 40 loops 0;", "name at 0 ink 40 loops 0;"
                + many(2, "name at 0 ink 1 loops 0;")) + "contract 3 4;";
        LeashedNames y = Check.of(told(2, 4, 0, last));
        due("law 0", y.by(0), 3);
        due("law 1", y.by(1), 4);
        due("law 2", y.by(2), 5);
        due("law 3", y.by(3), 6);
        due("the last one", y.law(), 3);
    }

    private void needs() {
        LeashedNames x = Check.of(told(2, 3, 0, "street 0 to 1;name at 0 ink 9 loops 0 walks 0 walks 0 walks 1;"
                + "name at 1 ink 9 loops 0;contract 0 1;"));
        due("it goes three steps and signs", x.needs(0), 4);
        due("the other one", x.needs(1), 4);
        due("needs(2)", x.needs(2), -2);
        due("needs(-1)", x.needs(-1), -2);
        due("its own stays", x.name(0, 1), 9);
        LeashedNames y = Check.of(told(1, 3, 1, many(3, "name at 0 ink 9 loops 0;") + "contract 0 1;"));
        due("no more: with less, another law 1 lets them", y.needs(2), 4);
        due("none signed by 40, nor by 0", y.needs(0), 0);
        LeashedNames z = Check.of(told(1, 3, 0, "name at 0 ink 5 loops 0;"));
        due("nothing to sign", z.needs(0), 0);
        LeashedNames far = Check.of(told(2, 20, 0, "street 0 to 1;name at 0 ink 1 loops 0;name at 0 ink 1 loops 0;"
                + many(6, "contract 0 1;")));
        due("with one other's single ink", far.needs(0), 1);
    }

    private void lives() {
        LeashedNames x = Check.of(TOWN);
        due("where it is fed, and signs both", x.lives(2), 1);
        due("lives(3)", x.lives(3), -2);
        due("lives(-1)", x.lives(-1), -2);
        LeashedNames y = Check.of(told(4, 2, 0, "name at 0 ink 5 loops 0;name at 2 ink 5 loops 0;name at 3 ink 5 loops 0;"
                + "contract 0 1;contract 0 2;contract 1 2;"));
        due("the least of several", y.lives(0), 2);
        due("y.lives(1)", y.lives(1), 0);
        due("its own stays", y.name(0, 0), 0);
        LeashedNames z = Check.of(told(4, 2, 0, "name at 3 ink 5 loops 0;"));
        due("nothing to sign", z.lives(0), 0);
    }

    private void dig() {
        due("no state", nothing().dig(), -2);
        LeashedNames x = Check.of(told(2, 3, 0, "street 0 to 1;name at 0 ink 1 loops 0 walks 0 walks 1;"
                + "name at 1 ink 9 loops 0;contract 0 1;"));
        due("where it sleeps", x.dig(), 0);
        due("no well is made", x.well(0), 0);
        LeashedNames y = Check.of(told(3, 3, 0, "name at 1 ink 0 loops 0;name at 1 ink 9 loops 0;name at 2 ink 0 loops 0;"
                + "name at 2 ink 9 loops 0;contract 0 1;contract 2 3;"));
        due("the least of several", y.dig(), 1);
        LeashedNames z = Check.of(told(2, 3, 0, many(2, "name at 1 ink 9 loops 0;") + "contract 0 1;"));
        due("no more than now", z.dig(), -1);
        String full = told(2, 3, 0, many(4, "well 0 feeds 1;") + "name at 1 ink 0 loops 0;name at 1 ink 1 loops 0;contract 0 1;");
        due("a fifth well", Check.of(full).dig(), 1);
        String long20 = told(2, 20, 0, "street 0 to 1;name at 0 ink 0 loops 0" + many(7, " walks 0") + " walks 1;"
                + "name at 1 ink 40 loops 0;contract 0 1;");
        due("feeding", Check.of(long20).dig(), 0);
        String twenty = told(1, 20, 0, many(3, "name at 0 ink 0 loops 0;") + many(6, "contract 0 1 2;"));
        due("feeding 20", Check.of(twenty).dig(), 0);
    }

    private void shut() {
        due("no state", nothing().shut(), -2);
        String leaves = "street 0 to 1;street 1 to 0;street 2 to 0;name at 0 ink 5 loops 0 walks 1;"
                + "name at 2 ink 5 loops 0 walks 0;contract 0 1;";
        LeashedNames x = Check.of(told(3, 2, 0, leaves));
        due("there is another", x.shut(), -1);
        x.close(0, 1);
        due("with one closed", x.shut(), 1);
        due("it is not closed by it", x.street(1, 2), 0);
        x.close(1, 1);
        due("no more than now", x.shut(), -1);
        String two = "street 2 to 0;street 0 to 1;name at 0 ink 5 loops 0 walks 1 walks 2;"
                + "name at 2 ink 5 loops 0 walks 0;contract 0 1;";
        due("not the first one", Check.of(told(3, 1, 0, two)).shut(), 1);
        String several = "street 0 to 1;street 1 to 2;name at 0 ink 9 loops 0 walks 1 walks 2;name at 1 ink 9 loops 0 walks 1;"
                + "name at 0 ink 9 loops 0;contract 0 2;";
        due("signed already", Check.of(told(3, 4, 0, several)).shut(), -1);
        String either = "street 0 to 3;street 1 to 3;street 2 to 0;street 2 to 1;"
                + "name at 0 ink 9 loops 0 walks 3;name at 1 ink 9 loops 0 walks 3;"
                + "name at 2 ink 9 loops 0 walks 0 walks 2 walks 1;contract 0 2;contract 1 2;";
        due("the first of several", Check.of(told(4, 3, 0, either)).shut(), 0);
        due("no streets", Check.of(told(3, 2, 0, "")).shut(), -1);
    }

    // ---- where a name lives, and whose a forgery is ----

    private void homes() {
        due("at 1 at step 1", with(LINE, 0, 1, 1).homes(0, 0), 7);
        due("at 2 at step 2", with(LINE, 0, 2, 2).homes(0, 0), 15);
        due("at 3 at step 1", with(LINE, 1, 1, 3).homes(1, 0), 8);
        due("nowhere", with(LINE, 0, 1, 0).homes(0, 0), 0);
        due("both of two", with(LINE, 0, 1, 1, 0, 2).homes(0, 0), 4);
        due("no numbers", with(LINE, 3).homes(3, 0), 15);
        due("step 0", with(LINE, 0, 0, 3).homes(0, 0), 8);
        due("not two each", with(LINE, 0, 1).homes(0, 0), -2);
        due("a step beyond", with(LINE, 0, 4, 1).homes(0, 0), -2);
        due("a corner beyond", with(LINE, 0, 1, 4).homes(0, 0), -2);
        due("below 0", with(LINE, 0, -1, 1).homes(0, 0), -2);
        due("below 0", with(LINE, 0, 1, -1).homes(0, 0), -2);
        due("far out", with(LINE, 0, 1L << 32 | 1, 1).homes(0, 0), -2);
        due("a later one", with(LINE, 0, 1, 0, 9, 9).homes(0, 0), -2);
        due("it has nothing", with(LINE, 0).homes(1, 0), -6);
        due("no such slot", with(LINE, 0).homes(4, 0), -2);
        due("no such slot", with(LINE, 0).homes(-1, 0), -2);
        due("no such name, ahead of -6", with(LINE, 0).homes(1, 3), -2);
        due("no such name", with(LINE, 0).homes(0, -1), -2);
        LeashedNames x = with(LINE, 0, 1, 1);
        x.close(1, 1);
        due("a closed street", x.homes(0, 0), 3);
    }

    private void ask() {
        due("step 0 tells it", with(LINE, 0, 1, 1).ask(0, 0), 0);
        due("fewer than two", with(LINE, 0, 1, 3).ask(0, 0), -1);
        due("none", with(LINE, 0, 1, 0).ask(0, 0), -1);
        due("it has nothing", with(LINE, 0).ask(2, 0), -6);
        due("no such slot", with(LINE, 0).ask(4, 0), -2);
        due("no such name", with(LINE, 0).ask(0, 3), -2);
        due("a number is none", with(LINE, 0, 4, 0).ask(0, 0), -2);
        due("not two each", with(LINE, 0, 4).ask(0, 0), -2);
        due("one corner", with(told(1, 3, 0, "name at 0 ink 1 loops 0;"), 0).ask(0, 0), -1);
    }

    private void leaves() {
        due("step 0 tells it", with(LINE, 0, 1, 1).leaves(0, 0), 1);
        due("as now", with(LINE, 0, 1, 3).leaves(0, 0), 1);
        due("none", with(LINE, 0, 1, 0).leaves(0, 0), 0);
        due("it has nothing", with(LINE, 0).leaves(2, 0), -6);
        due("no such slot", with(LINE, 0).leaves(-1, 0), -2);
        due("no such name", with(LINE, 0).leaves(0, 3), -2);
        due("a number is none", with(LINE, 0, 0, 4).leaves(0, 0), -2);
        due("not two each", with(LINE, 0, 0).leaves(0, 0), -2);
    }

    private void sniffs() {
        due("two at a time", with(LINE, 0, 2, 0).sniffs(0), 6);
        due("three at a time", with(LINE, 0, 3, 1).sniffs(0), 1);
        due("five at a time", with(LINE, 0, 5, 2).sniffs(0), 3);
        due("both of two", with(LINE, 0, 5, 2, 2, 1).sniffs(0), 1);
        due("nobody's", with(LINE, 0, 2, 8).sniffs(0), 0);
        due("nine at a time", with(LINE, 0, 9, 7).sniffs(0), 1);
        due("no numbers", with(LINE, 0).sniffs(0), 7);
        due("by 1", with(LINE, 0, 1, 0).sniffs(0), -2);
        due("by 0", with(LINE, 0, 0, 0).sniffs(0), -2);
        due("by 10", with(LINE, 0, 10, 0).sniffs(0), -2);
        due("left over 9", with(LINE, 0, 9, 9).sniffs(0), -2);
        due("left over -1", with(LINE, 0, 9, -1).sniffs(0), -2);
        due("a later one", with(LINE, 0, 2, 8, 1, 1).sniffs(0), -2);
        due("not two each", with(LINE, 0, 2, 0, 3).sniffs(0), -2);
        due("it has nothing", with(LINE, 0).sniffs(1), -6);
        due("no such slot", with(LINE, 0).sniffs(4), -2);
        due("no such slot", with(LINE, 0).sniffs(-1), -2);
        due("no state, ahead of -6", nothing().sniffs(0), -2);
        due("no name", with(told(1, 1, 0, ""), 0, 2, 0).sniffs(0), 0);
    }

    private void next() {
        due("by 4: 3, 0 and 2", with(LINE, 0).next(0), 4);
        due("12 and 30: by 4", with(LINE, 0, 2, 0).next(0), 4);
        due("7 and 12: by 2", with(LINE, 0, 5, 2).next(0), 2);
        due("one alone", with(LINE, 0, 3, 1).next(0), -1);
        due("nobody", with(LINE, 0, 2, 5).next(0), -1);
        String alike = told(1, 1, 0, "name at 0 ink 0 loops 7;name at 0 ink 0 loops 7;");
        due("alike", with(alike, 0).next(0), -1);
        String nine = told(1, 1, 0, "name at 0 ink 0 loops 0;name at 0 ink 0 loops 56;");
        due("0 and 56: by 3", with(nine, 0).next(0), 3);
        due("by 9", with(told(1, 1, 0, "name at 0 ink 0 loops 0;name at 0 ink 0 loops 40;name at 0 ink 0 loops 24;"
                + "name at 0 ink 0 loops 16;name at 0 ink 0 loops 56;"), 0).next(0), 9);
        due("it has nothing", with(LINE, 0).next(1), -6);
        due("no such slot", with(LINE, 0).next(4), -2);
        due("a number is none", with(LINE, 0, 10, 0).next(0), -2);
        due("not two each", with(LINE, 0, 2).next(0), -2);
        due("no state", nothing().next(0), -2);
    }

    // ---- shares, and two who stay or walk ----

    private void worth() {
        LeashedNames x = Check.of(TOWN);
        due("worth(0)", x.worth(0), 0);
        due("worth(1)", x.worth(1), 0);
        due("worth(3)", x.worth(3), 1);
        due("worth(6)", x.worth(6), 0);
        due("worth(7), signed or not", x.worth(7), 2);
        due("worth(8)", x.worth(8), -2);
        due("worth(-1)", x.worth(-1), -2);
        due("worth(MAX)", x.worth(MAX), -2);
        due("no state", nothing().worth(0), -2);
        LeashedNames y = Check.of(told(1, 1, 0, ""));
        due("no name", y.worth(0), 0);
        due("no name", y.worth(1), -2);
    }

    private void share() {
        LeashedNames x = Check.of(TOWN);
        due("a half and a third", x.share(0, 0), 5);
        due("below", x.share(0, 1), 6);
        due("a third", x.share(2, 0), 1);
        due("below", x.share(2, 1), 3);
        due("share(3, 0)", x.share(3, 0), -2);
        due("share(-1, 0)", x.share(-1, 0), -2);
        due("share(0, 2)", x.share(0, 2), -2);
        due("share(0, -1)", x.share(0, -1), -2);
        LeashedNames y = Check.of(told(1, 1, 0, many(4, "name at 0 ink 0 loops 0;") + many(2, "contract 0 1;")
                + many(3, "contract 0 1 2;")));
        due("in lowest terms", y.share(0, 0), 2);
        due("below", y.share(0, 1), 1);
        due("nothing", y.share(3, 0), 0);
        due("0 / 1", y.share(3, 1), 1);
    }

    private void rests() {
        due("both stay", Check.of(TOWN).rests(0, 1), 8);
        due("one of them stays", Check.of(SWAP).rests(0, 1), 6);
        LeashedNames x = Check.of(told(4, 2, 0, "street 0 to 1;street 2 to 1;street 3 to 2;name at 0 ink 9 loops 0 walks 1;"
                + "name at 3 ink 9 loops 0 walks 2 walks 1;contract 0 1;"));
        due("both walk, or both stay", x.rests(0, 1), 9);
        LeashedNames y = Check.of(told(3, 2, 0, "street 0 to 1;name at 0 ink 9 loops 0 walks 1;name at 1 ink 9 loops 0;"
                + "name at 2 ink 9 loops 0;contract 0 1;"));
        due("the first walks, the other either way", y.rests(0, 1), 1 | 4);
        due("the other way round", y.rests(1, 0), 1 | 2);
        due("one twice", y.rests(1, 1), -2);
        due("rests(0, 3)", y.rests(0, 3), -2);
        due("rests(-1, 0)", y.rests(-1, 0), -2);
        due("no state", nothing().rests(0, 1), -2);
    }

    private void gets() {
        LeashedNames x = Check.of(TOWN);
        due("gets(0, 1, 0, 0)", x.gets(0, 1, 0, 0), -1);
        due("gets(1, 0, 0, 0)", x.gets(1, 0, 0, 0), 4);
        due("gets(0, 1, 1, 0)", x.gets(0, 1, 1, 0), 0);
        due("gets(1, 0, 0, 1)", x.gets(1, 0, 0, 1), -1);
        due("gets(0, 1, 0, 1)", x.gets(0, 1, 0, 1), -1);
        due("gets(1, 0, 1, 0)", x.gets(1, 0, 1, 0), 5);
        due("gets(0, 1, 1, 1)", x.gets(0, 1, 1, 1), 0);
        due("no contract, six streets", x.gets(0, 2, 0, 0), -1);
        x.send(0, 1, 1);
        due("walks as now: sent", x.gets(0, 1, 0, 0), 1);
        due("stays, though sent", x.gets(0, 1, 1, 0), 0);
        due("one twice", x.gets(1, 1, 0, 0), -1000);
        due("gets(0, 3, 0, 0)", x.gets(0, 3, 0, 0), -1000);
        due("gets(-1, 0, 0, 0)", x.gets(-1, 0, 0, 0), -1000);
        due("gets(0, 1, 2, 0)", x.gets(0, 1, 2, 0), -1000);
        due("gets(0, 1, 0, -1)", x.gets(0, 1, 0, -1), -1000);
        due("no state", nothing().gets(0, 1, 0, 0), -1000);
    }

    // ---- rain by chance ----

    private void chance() {
        LeashedNames x = Check.of(WET);
        long[][] want = {{7, 10}, {91, 100}, {973, 1000}, {9919, 10000}, {99757, 100000}};
        for (int step = 0; step < 5; step++) {
            due("chance(0, " + step + ", 0)", x.chance(0, step, 0), want[step][0]);
            due("chance(0, " + step + ", 1)", x.chance(0, step, 1), want[step][1]);
        }
        due("from steps 0 to 7", x.chance(0, 7, 0), 99993439);
        due("below", x.chance(0, 7, 1), 100000000);
        due("chance(0, 8, 0)", x.chance(0, 8, 0), -2);
        due("chance(0, -1, 0)", x.chance(0, -1, 0), -2);
        due("chance(1, 0, 0)", x.chance(1, 0, 0), -2);
        due("chance(-1, 0, 0)", x.chance(-1, 0, 0), -2);
        due("chance(0, 0, 2)", x.chance(0, 0, 2), -2);
        due("chance(0, 0, -1)", x.chance(0, 0, -1), -2);
        due("no state", nothing().chance(0, 0, 0), -2);
        LeashedNames even = Check.of(WET.replace("odds 3", "odds 5").replace("steps 9", "steps 2"));
        due("in lowest terms", even.chance(0, 0, 0), 1);
        due("below", even.chance(0, 0, 1), 2);
        due("three quarters", even.chance(0, 1, 1), 4);
        due("not the last step", even.chance(0, 2, 0), -2);
        LeashedNames never = Check.of(WET.replace("odds 3", "odds 10"));
        due("always rain", never.chance(0, 3, 0), 0);
        due("0 / 1", never.chance(0, 3, 1), 1);
        LeashedNames dry = Check.of(WET.replace("odds 3", "odds 0"));
        due("never rain", dry.chance(0, 3, 0), 1);
        due("1 / 1", dry.chance(0, 3, 1), 1);
        LeashedNames thirsty = Check.of(WET.replace("at 0 ink 9", "at 0 ink 2"));
        due("ink is less as else", thirsty.chance(0, 7, 0), 7);
        due("below", thirsty.chance(0, 7, 1), 10);
    }

    private void mean() {
        LeashedNames x = Check.of(WET.replace(";contract 0 1", ";name at 1 ink 9 loops 0;contract 0 1;contract 1 2"));
        due("one for sure", x.mean(0, 0), 17);
        due("below", x.mean(0, 1), 10);
        due("mean(1, 0)", x.mean(1, 0), 191);
        due("mean(1, 1)", x.mean(1, 1), 100);
        due("mean(8, 0)", x.mean(8, 0), -2);
        due("mean(-1, 0)", x.mean(-1, 0), -2);
        due("mean(0, 2)", x.mean(0, 2), -2);
        due("mean(0, -1)", x.mean(0, -1), -2);
        due("no state", nothing().mean(0, 0), -2);
        due("not the last step", Check.of(WET.replace("steps 9", "steps 2")).mean(2, 0), -2);
        LeashedNames none = Check.of(told(1, 3, 0, ""));
        due("0 / 1", none.mean(2, 0), 0);
        due("0 / 1", none.mean(2, 1), 1);
    }

    // ---- acts ----

    private void send() {
        LeashedNames x = Check.of(TOWN);
        due("to where it lives", x.send(0, 0, 0), 2);
        due("at(0, 1)", x.at(0, 1), 0);
        due("its walk counts on", x.at(0, 2), 0);
        due("at(0, 3)", x.at(0, 3), 1);
        due("of several the last told", x.send(0, 1, 0), 2);
        due("at(0, 1)", x.at(0, 1), 1);
        due("no street", x.send(1, 4, 0), 1);
        due("it stays", x.at(1, 1), 2);
        due("asleep", x.send(2, 0, 3), 4);
        due("four acts", x.count(8), 4);
        due("send(3, 0, 0)", x.send(3, 0, 0), -2);
        due("send(-1, 0, 0)", x.send(-1, 0, 0), -2);
        due("send(0, 5, 0)", x.send(0, 5, 0), -2);
        due("send(0, -1, 0)", x.send(0, -1, 0), -2);
        due("the last step", x.send(0, 0, 6), -2);
        due("send(0, 0, -1)", x.send(0, 0, -1), -2);
        due("four acts yet", x.count(8), 4);
        for (int i = 4; i < 30; i++) {
            due("act " + i, x.send(0, 2, 5), 2);
        }
        due("act 31", x.send(0, 1, 5), -5);
        due("-2 ahead of it", x.send(0, 1, 6), -2);
        due("nothing happens", x.at(0, 6), 2);
        x.undo();
        due("one taken back", x.send(0, 1, 5), 1);
        LeashedNames y = Check.of(LINE);
        due("without a walk", y.send(1, 2, 2), 2);
        due("no state", nothing().send(0, 0, 0), -2);
    }

    private void close() {
        LeashedNames x = Check.of(TOWN);
        due("it was open", x.close(0, 1), 0);
        due("closed", x.street(0, 2), 1);
        due("nobody goes", x.at(0, 6), 0);
        due("it was closed", x.close(0, 1), 1);
        due("it was closed", x.close(0, 0), 1);
        due("open", x.street(0, 2), 0);
        due("at(0, 6)", x.at(0, 6), 2);
        due("it was open", x.close(0, 0), 0);
        due("four acts", x.count(8), 4);
        due("close(3, 1)", x.close(3, 1), -2);
        due("close(-1, 1)", x.close(-1, 1), -2);
        due("close(0, 2)", x.close(0, 2), -2);
        due("close(0, -1)", x.close(0, -1), -2);
        for (int i = 4; i < 30; i++) {
            x.close(2, i % 2);
        }
        due("act 31", x.close(0, 1), -5);
        due("-2 ahead of it", x.close(0, 2), -2);
        due("30 acts", x.count(8), 30);
        due("nothing happens", x.street(0, 2), 0);
        due("no state", nothing().close(0, 0), -2);
    }

    private void undo() {
        due("no state", nothing().undo(), -2);
        LeashedNames x = Check.of(TOWN);
        due("none", x.undo(), -5);
        x.close(0, 1);
        x.send(0, 0, 1);
        x.send(0, 1, 1);
        x.close(0, 0);
        due("undo", x.undo(), 3);
        due("closed as before", x.street(0, 2), 1);
        x.close(0, 0);
        due("at(0, 2)", x.at(0, 2), 1);
        due("undo", x.undo(), 3);
        due("undo", x.undo(), 2);
        x.close(0, 0);
        due("the one before counts again", x.at(0, 2), 0);
        due("undo", x.undo(), 2);
        due("undo", x.undo(), 1);
        due("undo", x.undo(), 0);
        due("as told", x.at(0, 6), 2);
        due("none is left", x.undo(), -5);
    }

    private void anew() {
        due("no state", nothing().anew(), -2);
        LeashedNames x = Check.of(TOWN);
        due("none", x.anew(), 0);
        x.close(0, 1);
        x.send(0, 0, 1);
        due("two", x.anew(), 2);
        due("open", x.street(0, 2), 0);
        due("at(0, 2)", x.at(0, 2), 2);
        due("no acts", x.count(8), 0);
        due("none to take back", x.undo(), -5);
    }

    // ---- days drawn ----

    /*
     * The draws from seed 1 are 16838 5758 10113 17515 31051 5627 23010 7419 16212 4086, modulo 10.
     */
    private void drawn() {
        String ten = WET.replace("steps 9", "steps 10");
        due("below 3", Check.of(ten).drawn(1, 0), 1 << 4 | 1 << 6 | 1 << 8);
        due("below 5", Check.of(ten.replace("odds 3", "odds 5")).drawn(1, 0), 1 << 2 | 1 << 4 | 1 << 6 | 1 << 8);
        due("below 6", Check.of(ten.replace("odds 3", "odds 6")).drawn(1, 0), 1 << 2 | 1 << 3 | 1 << 4 | 1 << 6 | 1 << 8);
        due("below 10", Check.of(ten.replace("odds 3", "odds 10")).drawn(1, 0), 1023);
        due("below 0", Check.of(ten.replace("odds 3", "odds 0")).drawn(1, 0), 0);
        due("steps ahead of the last", Check.of(WET.replace("steps 9", "steps 5")).drawn(1, 0), 1 << 4);
        due("it signs", Check.of(ten).drawn(1, 1), 1);
        due("it rains each step", Check.of(ten.replace("odds 3", "odds 10")).drawn(1, 1), 0);
        LeashedNames x = Check.of(WET);
        due("from seed 0: 0, then 21468 9988 22117", x.drawn(0, 0) & 15, 1);
        due("the largest seed", x.drawn(2000000000, 1), 1);
        due("above it", x.drawn(2000000001, 0), -2);
        due("below 0", x.drawn(-1, 0), -2);
        due("drawn(0, 2)", x.drawn(0, 2), -2);
        due("drawn(0, -1)", x.drawn(0, -1), -2);
        due("no state", nothing().drawn(0, 0), -2);
        due("the day as it is stays dry", x.at(0, 1), 1);
    }

    /** Signed at step 1 or never, so that it is so in the days that do not begin with rain. */
    private void luck() {
        LeashedNames x = Check.of(WET.replace("at 0 ink 9", "at 0 ink 2").replace("steps 9", "steps 2"));
        int dry = 0;
        for (int n = 1; n <= 20; n++) {
            dry += x.drawn(n - 1, 1);
            due("luck(0, " + n + ", 0)", x.luck(0, n, 0), dry);
        }
        due("seed 0 begins with rain", x.luck(0, 1, 0), 0);
        due("seed 1 does not", x.luck(1, 1, 0), 1);
        due("both", x.luck(0, 2, 0), 1);
        due("luck(0, 0, 0)", x.luck(0, 0, 0), -2);
        due("luck(0, 21, 0)", x.luck(0, 21, 0), -2);
        due("luck(-1, 1, 0)", x.luck(-1, 1, 0), -2);
        due("luck(2000000001, 1, 0)", x.luck(2000000001, 1, 0), -2);
        due("luck(0, 1, 1)", x.luck(0, 1, 1), -2);
        due("luck(0, 1, -1)", x.luck(0, 1, -1), -2);
        due("no state", nothing().luck(0, 1, 0), -2);
        LeashedNames sure = Check.of(WET.replace("odds 3", "odds 0"));
        due("twenty from the largest seed", sure.luck(2000000000, 20, 0), 20);
    }

    // ---- loops, counts and images ----

    private void rate() {
        LeashedNames x = with(TOWN, 0, 9, 5);
        due("rate(0, 59)", x.rate(0, 59), 7);
        due("from now on", x.name(0, 2), 59);
        due("sniffs", x.sniffs(0), 1);
        due("rate(0, 0)", x.rate(0, 0), 59);
        due("it is no act", x.count(8), 0);
        due("rate(0, 60)", x.rate(0, 60), -2);
        due("rate(0, -1)", x.rate(0, -1), -2);
        due("rate(3, 0)", x.rate(3, 0), -2);
        due("rate(-1, 0)", x.rate(-1, 0), -2);
        x.close(0, 0);
        due("an act", x.rate(0, 1), -5);
        due("-2 ahead of it", x.rate(0, 60), -2);
        due("nothing happens", x.name(0, 2), 0);
        x.undo();
        due("taken back", x.rate(0, 1), 0);
        due("no state", nothing().rate(0, 1), -2);
    }

    private void count() {
        LeashedNames x = Check.of("state corners 5 steps 6 law 2 odds 3;street 0 to 1;street 1 to 2;street 2 to 3;"
                + "street 2 to 4;well 1 feeds 2;well 1 feeds 3;name at 0 ink 5 loops 7;name at 0 ink 5 loops 7;"
                + "name at 0 ink 5 loops 7;contract 0 1;");
        x.send(0, 0, 0);
        x.send(0, 0, 0);
        x.feed(0, 0, 0, 0, 0);
        x.end(13);
        x.row(0, 0, 0);
        x.row(3, 0, 60);
        int[] want = {5, 6, 2, 3, 4, 2, 3, 1, 2, 11, 13, 2};
        for (int what = 0; what < 12; what++) {
            due("count(" + what + ")", x.count(what), want[what]);
        }
        for (int wrong : new int[] {-1, 12, MIN, MAX}) {
            due("count(" + wrong + ")", x.count(wrong), -1);
        }
    }

    private void image() {
        LeashedNames x = nothing();
        due("image(-1)", x.image(-1), -2);
        due("image(3)", x.image(3), -2);
        due("image(MAX)", x.image(MAX), -2);
        due("no state", x.image(0), 0);
        Check.tell(x, TOWN);
        x.send(0, 0, 1);
        due("image(1)", x.image(1), 0);
        x.send(0, 0, 0);
        x.close(0, 1);
        due("image(2)", x.image(2), 0);
        x.anew();
        x.rate(0, 1);
        due("back(1)", x.back(1), 0);
        due("acts", x.count(8), 1);
        due("loops", x.name(0, 2), 7);
        due("at(0, 2)", x.at(0, 2), 0);
        due("back(2)", x.back(2), 0);
        due("acts", x.count(8), 3);
        due("closed", x.street(0, 2), 1);
        due("in place of another", x.image(1), 0);
        x.anew();
        x.back(1);
        due("acts", x.count(8), 3);
        due("no state is kept, too", x.back(0), 0);
        due("lines", x.count(9), 0);
    }

    private void back() {
        LeashedNames x = Check.of(TOWN);
        due("back(-1)", x.back(-1), -2);
        due("back(3)", x.back(3), -2);
        due("it has nothing", x.back(2), -6);
        x.send(0, 0, 0);
        x.image(2);
        due("another has nothing", x.back(1), -6);
        Check.tell(x, LINE);
        x.row(0, 0, 1);
        x.feed(0, 0, 0, 0, 0);
        due("back(2)", x.back(2), 0);
        due("lines", x.count(9), 11);
        due("acts", x.count(8), 1);
        due("at(0, 1)", x.at(0, 1), 0);
        due("wells", x.well(1), 5);
        due("slots stay", x.count(11), 1);
        due("the tape stays", x.count(10), 20);
        due("undo", x.undo(), 0);
        due("at(0, 1)", x.at(0, 1), 1);
        due("the image stays", x.back(2), 0);
        due("acts", x.count(8), 1);
        x.end(0);
        x.state();
        due("no state", x.count(9), 0);
        due("once more", x.back(2), 0);
        due("at(0, 1)", x.at(0, 1), 0);
    }

    // ---- rows ----

    private void row() {
        LeashedNames x = Check.of(LINE);
        due("row(0, 0, 60)", x.row(0, 0, 60), 0);
        due("write(0, 59, 1)", x.write(0, 59, 1), 0);
        due("write(0, 60, 1)", x.write(0, 60, 1), -7);
        due("in place of another", x.row(0, 3, 2), 0);
        due("all 0", x.homes(0, 0), 1);
        due("row(3, 1, 0)", x.row(3, 1, 0), 0);
        due("row(0, 0, -1)", x.row(0, 0, -1), -3);
        due("row(0, 0, MIN)", x.row(0, 0, MIN), -3);
        due("the slot stays", x.homes(0, 0), 1);
        due("row(0, 0, 61)", x.row(0, 0, 61), -2);
        due("row(0, 4, 1)", x.row(0, 4, 1), -2);
        due("row(0, -1, 1)", x.row(0, -1, 1), -2);
        due("row(4, 0, 1)", x.row(4, 0, 1), -2);
        due("row(-1, 0, 1)", x.row(-1, 0, 1), -2);
        due("-2 ahead of -3", x.row(4, 0, -1), -2);
        due("two slots", x.count(11), 2);
        fill(x, 0, 0, 1, 3);
        due("a row", x.homes(0, 0), 8);
        x.row(0, 0, 2);
        due("all 0 again", x.homes(0, 0), 1);
    }

    private void write() {
        LeashedNames x = Check.of(LINE);
        due("it has nothing", x.write(0, 0, 1), -6);
        due("write(4, 0, 1)", x.write(4, 0, 1), -2);
        due("write(-1, 0, 1)", x.write(-1, 0, 1), -2);
        long[] over = {1L << 8, 1L << 16, 1L << 32, 0};
        for (int width = 0; width < 4; width++) {
            fill(x, width, width, 1 + over[width], 3 - over[width]);
            due("cut to width " + width, x.homes(width, 0), 8);
            if (width > 0) {
                fill(x, width, width, 1 + over[width - 1], 3);
                due("not cut to less than width " + width, x.homes(width, 0), -2);
            }
            fill(x, width, width, 1, -1);
            due("below 0 in width " + width, x.homes(width, 0), -2);
        }
        x.row(0, 0, 2);
        due("write(0, 1, 3)", x.write(0, 1, 3), 0);
        due("number 1 of it", x.homes(0, 0), 8);
        due("write(0, 2, 1)", x.write(0, 2, 1), -7);
        due("write(0, -1, 1)", x.write(0, -1, 1), -7);
        due("write(0, MAX, 1)", x.write(0, MAX, 1), -7);
        due("no state is asked", nothing().write(0, 0, 0), -6);
    }

    private void paste() {
        LeashedNames x = Check.of(LINE);
        fill(x, 0, 0, 1, 3, 2, 2);
        fill(x, 1, 0, 0, 0);
        due("paste(0, 0, 1, 0, 2)", x.paste(0, 0, 1, 0, 2), 0);
        due("the same", x.homes(1, 0), 8);
        due("paste(0, 1, 1, 1, 1)", x.paste(0, 1, 1, 1, 1), 0);
        fill(x, 2, 0, 0, 1, 2, 2, 3, 3);
        due("its own, as they were", x.paste(2, 0, 2, 2, 4), 0);
        due("0 1 0 1 2 2", x.homes(2, 0), 2);
        due("no more than so", x.paste(2, 4, 2, 0, 2), 0);
        due("2 2 0 1 2 2", x.homes(2, 0), 2);
        due("none at the end", x.paste(0, 4, 1, 2, 0), 0);
        due("none beyond", x.paste(0, 5, 1, 2, 0), -7);
        due("none beyond", x.paste(0, 4, 1, 3, 0), -7);
        due("one beyond", x.paste(0, 4, 1, 0, 1), -7);
        due("one beyond", x.paste(0, 0, 1, 2, 1), -7);
        due("below 0", x.paste(0, -1, 1, 0, 1), -7);
        due("below 0", x.paste(0, 0, 1, -1, 1), -7);
        due("below 0", x.paste(0, 0, 1, 0, -1), -7);
        due("far out", x.paste(0, 1, 1, 1, MAX), -7);
        due("far out", x.paste(0, MAX, 1, MAX, MAX), -7);
        fill(x, 1, 0, 0, 1);
        due("nothing happens", x.paste(0, 0, 1, 1, 2), -7);
        due("as it was", x.homes(1, 0), 2);
        due("no such slot", x.paste(4, 0, 0, 0, 0), -2);
        due("no such slot", x.paste(0, 0, -1, 0, 0), -2);
        due("one has nothing", x.paste(0, 0, 3, 0, 0), -6);
        due("one has nothing", x.paste(3, 0, 0, 0, 0), -6);
        due("-2 ahead of -6", x.paste(3, 0, 4, 0, 0), -2);
        x.row(3, 1, 4);
        due("not of one width", x.paste(0, 0, 3, 0, 1), -8);
        due("-8 ahead of -7", x.paste(0, 9, 3, 0, 1), -8);
        x.row(3, 0, 0);
        due("no numbers", x.paste(3, 0, 0, 0, 0), 0);
    }
}
