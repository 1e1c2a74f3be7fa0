import java.io.IOException;
import java.util.List;

/**
 * Promises 1 to 69 sentence by sentence: each bound from inside and from outside, the empty and the
 * full, the refused call and what stands unchanged behind it.
 */
public final class SentenceTests extends Cases {
    private static final String NO_STATE = "no state";

    private SentenceTests(Check check) {
        super(check);
    }

    public static void main(String[] args) throws IOException {
        Check check = new Check("SentenceTests");
        SentenceTests tests = new SentenceTests(check);
        tests.read();
        tests.all();
        tests.allQuoted(false, 69);
        tests.askedAlone();
        tests.fullLength();
        check.close();
    }

    private void all() {
        tape();
        stateAndFault();
        asTold();
        stepByStep();
        signing();
        together();
        ways();
        inPlace();
        guesses();
        sharesAndRain();
        acts();
        days();
        images();
        rows();
    }

    private static LeashedNames ring() {
        return Check.of(ring(20, 0, 5));
    }

    private static LeashedNames least() {
        return Check.of(LEAST);
    }

    /** So many names at one corner with so much ink, and contracts. */
    private static LeashedNames alike(int names, int ink, String contracts) {
        return Check.of(told(1, 1, 0, many(names, "name at 0 ink " + ink + " loops 0;") + contracts));
    }

    // ---- 1 to 3, the tape ----

    private void tape() {
        section("1");
        sentence("No STATE.", this::newObject);
        section("2");
        sentence("Twenty bytes come behind the TAPE, four of each number, the highest first: how many it has;", () -> {
            LeashedNames x = nothing();
            due("20", x.feed(0x73746174, 0x6520636f, 0x726e6572, 0x73203120, 0x73746570), 20);
            due("40", x.feed(0x73203120, 0x6c617720, 0x30206f64, 0x64732030, 0x3b202020), 40);
            due("as told", x.state(), 1);
            for (int at = 0; at < 20; at++) {
                due("feed", Check.tape(nothing(), many(at, " ") + "=" + many(19 - at, " ")), 20);
                faultOf(many(at, " ") + "=" + many(19 - at, " "), 1, at);
            }
            x.feed(-1, 0, 0, 0, 0);
            due("bytes above 127", x.state(), -4);
            due("the first", x.fault(1), 0);
        });
        sentence("NONE, and none come, if it would have more than 900.", () -> {
            for (int size : new int[] {879, 880, 881, 890, 900}) {
                LeashedNames x = nothing();
                Check.tape(x, many(900, " "));
                x.end(size);
                boolean fits = size <= 880;
                due("behind " + size, x.feed(0x3b3b3b3b, 0, 0, 0, 0), fits ? size + 20 : -1);
                due("it has", x.count(10), fits ? size + 20 : size);
                due("none come", x.state(), fits ? -4 : 0);
            }
            LeashedNames x = nothing();
            for (int i = 1; i <= 46; i++) {
                due("feed " + i, x.feed(0, 0, 0, 0, 0), i <= 45 ? 20 * i : -1);
            }
        });
        section("3");
        sentence("The TAPE has its first n bytes alone: n;", () -> {
            LeashedNames x = nothing();
            Check.tape(x, LEAST + "name at");
            due("count(10)", x.count(10), LEAST.length() + 7);
            due("the first ones", x.end(LEAST.length()), LEAST.length());
            due("read", x.state(), 1);
            Check.tape(x, "=");
            due("end(0)", x.end(0), 0);
            due("empty", x.state(), 0);
            Check.tape(x, LEAST);
            x.end(13);
            x.feed(0x20312073, 0x74657073, 0x2031206c, 0x61772030, 0x206f6464);
            x.feed(0x7320303b, 0x20202020, 0x20202020, 0x20202020, 0x20202020);
            due("more comes behind them", x.count(10), 53);
            due("read", x.state(), 1);
        });
        sentence("NONE, and nothing happens, if it has not so many, or n is below 0.", () -> {
            LeashedNames x = nothing();
            bounds("end of an empty tape", x::end, 0, 0, -1);
            Check.tape(x, LEAST);
            refused("end", x::end, 0, LEAST.length(), -1);
            due("nothing happens", x.count(10), LEAST.length());
            due("just as many", x.end(LEAST.length()), LEAST.length());
            due("read", x.state(), 1);
            due("end(1) of an empty tape", x.end(1), -1);
        });
    }

    private void newObject() {
        LeashedNames x = nothing();
        for (int what = 0; what < 12; what++) {
            due("count(" + what + ")", x.count(what), 0);
        }
        long[] got = {x.street(0, 0), x.well(0), x.name(0, 0), x.walk(0, 0), x.contract(0), x.at(0, 0), x.ink(0, 0),
            x.awake(0), x.here(0, 0), x.sleeps(0), x.goes(0), x.stuck(0), x.sees(0), x.drinks(0), x.signed(0), x.where(0),
            x.signs(0), x.deeds(0), x.meets(0, 0), x.often(0, 0), x.pack(), x.busy(), x.lone(0), x.total(0), x.first(),
            x.lies(0), x.thirst(), x.way(0, 0), x.reach(0), x.soon(0, 0), x.gather(0), x.hall(0), x.cut(0, 1), x.cuts(0, 1),
            x.by(0), x.law(), x.needs(0), x.lives(0), x.dig(), x.shut(), x.homes(0, 0), x.ask(0, 0), x.leaves(0, 0),
            x.sniffs(0), x.next(0), x.worth(0), x.share(0, 0), x.rests(0, 1), x.chance(0, 0, 0), x.mean(0, 0),
            x.send(0, 0, 0), x.close(0, 1), x.undo(), x.anew(), x.drawn(0, 0), x.luck(0, 1, 0), x.rate(0, 0)};
        for (int i = 0; i < got.length; i++) {
            due("call " + i, got[i], -2);
        }
        due("gets", x.gets(0, 1, 0, 0), -1000);
        for (int k = 0; k < 3; k++) {
            due("back(" + k + ")", x.back(k), -6);
        }
        for (int slot = 0; slot < 4; slot++) {
            due("write(" + slot + ")", x.write(slot, 0, 0), -6);
        }
        due("fault(0)", x.fault(0), 0);
        due("fault(1)", x.fault(1), -1);
        due("another object", Check.of(TOWN).count(9), 11);
        due("it has none yet", x.count(9), 0);
    }

    // ---- 4 and 5, state and fault ----

    private void stateAndFault() {
        section("4");
        sentence("The TAPE (empty then) is the STATE (in place of another), nothing done: how many LINES (0: there is none then).", () -> {
            LeashedNames x = nothing();
            due("28 lines", Check.tell(x, ring(20, 3, 10)), 28);
            due("the tape is empty", x.count(10), 0);
            x.close(0, 1);
            x.send(0, 0, 0);
            due("in place of another", Check.tell(x, TOWN), 11);
            due("nothing done", x.count(8), 0);
            due("nothing closed", x.street(0, 2), 0);
            due("as a new one", look(x).equals(look(Check.of(TOWN))) ? 0 : 1, 0);
            due("the least", Check.tell(x, LEAST), 1);
            due("nothing of the other is left", look(x).equals(look(least())) ? 0 : 1, 0);
            due("an empty tape", x.state(), 0);
            due("none then", look(x).equals(look(nothing())) ? 0 : 1, 0);
            due("none then", x.pack(), -2);
            LeashedNames y = Check.of(ring(20, 3, 10));
            due("an empty tape behind the most", y.state(), 0);
            due("none then", look(y).equals(look(nothing())) ? 0 : 1, 0);
            Check.tell(y, ring(20, 3, 10));
            Check.tell(y, told(8, 20, 0, ""));
            due("no wells are left", look(y).equals(look(Check.of(told(8, 20, 0, "")))) ? 0 : 1, 0);
            due("blanks", Check.tell(x, many(900, "\n")), 0);
            due("none then", x.awake(0), -2);
        });
        sentence("-4: a FAULT (the TAPE is empty, all else stays).", () -> {
            LeashedNames x = with(TOWN, 0, 0, 0, 2, 2);
            fill(x, 3, 0, 3, 1);
            x.image(1);
            x.send(0, 0, 0);
            x.close(1, 1);
            List<Long> before = look(x);
            for (String text : new String[] {"s", LEAST + ";", ring(20, 3, 0) + "x", TOWN + "well 0 feeds 0;"}) {
                due("a fault in " + text, Check.tell(x, text), -4);
                due("the tape is empty", x.count(10), 0);
            }
            same("behind them", look(x), before);
            due("the image stays", x.back(1), 0);
            due("without acts", x.count(8), 0);
            due("no other image", x.back(0), -6);
            LeashedNames none = nothing();
            due("without a state", Check.tell(none, "x"), -4);
            due("there is none yet", none.pack(), -2);
        });
        section("5");
        sentence("Of the latest state(), what 0: its FAULT, 0 without, 1: its place (NONE without).", () -> {
            LeashedNames x = nothing();
            String[] texts = {"x", "state corners 9", TOWN, ring(1, 0, 0) + " name", "", many(899, " ") + ";"};
            int[][] want = {{1, 0}, {2, 14}, {0, -1}, {3, ring(1, 0, 0).length() + 1}, {0, -1}, {1, 899}};
            for (int i = 0; i < texts.length; i++) {
                Check.tell(x, texts[i]);
                due("fault(0) of " + texts[i], x.fault(0), want[i][0]);
                due("fault(1) of " + texts[i], x.fault(1), want[i][1]);
            }
            Check.tape(x, TOWN);
            due("not of what has not been read", x.fault(1), 899);
            x.image(0);
            x.back(0);
            due("an image has none", x.fault(0), 1);
        });
        sentence("NONE for another what, and ahead of any (what 1).", () -> {
            LeashedNames x = nothing();
            due("ahead of any, what 0", x.fault(0), 0);
            due("ahead of any, what 1", x.fault(1), -1);
            refused("ahead of any", x::fault, 0, 1, -1);
            Check.tell(x, " x");
            due("what 0", x.fault(0), 1);
            due("what 1", x.fault(1), 1);
            refused("behind a fault", x::fault, 0, 1, -1);
        });
    }

    // ---- 6 to 10, what is told ----

    private void asTold() {
        section("6");
        sentence("Of a STREET, what 0, 1: its CORNERS,", () -> {
            LeashedNames x = Check.of(told(8, 1, 0, "street 7 to 0;street 0 to 7;"));
            int[][] want = {{7, 0}, {0, 7}};
            for (int street = 0; street < 2; street++) {
                due("what 0", x.street(street, 0), want[street][0]);
                due("what 1", x.street(street, 1), want[street][1]);
            }
        });
        sentence("2: 1 if it is closed now, else 0.", () -> {
            LeashedNames x = ring();
            for (int street : new int[] {0, 11}) {
                due("open", x.street(street, 2), 0);
                x.close(street, 1);
                due("closed", x.street(street, 2), 1);
            }
            due("another", x.street(10, 2), 0);
            x.close(11, 0);
            due("open again", x.street(11, 2), 0);
            due("closed yet", x.street(0, 2), 1);
            x.anew();
            due("taken back", x.street(0, 2), 0);
        });
        sentence("-2: there are none such.", () -> {
            bounds("street", n -> ring().street(n, 0), 0, 11, -2);
            bounds("what", n -> ring().street(11, n), 0, 2, -2);
            bounds("street", n -> Check.of(told(2, 1, 0, "street 0 to 1;")).street(n, 2), 0, 0, -2);
            due("none", least().street(0, 0), -2);
            due(NO_STATE, nothing().street(0, 2), -2);
        });
        section("7");
        sentence("Ink of all WELLS at a CORNER.", () -> {
            LeashedNames x = Check.of(told(8, 1, 0, "well 0 feeds 1;well 7 feeds 20;well 7 feeds 19;well 3 feeds 7;"));
            int[] want = {1, 0, 0, 7, 0, 0, 0, 39};
            for (int corner = 0; corner < 8; corner++) {
                due("well(" + corner + ")", x.well(corner), want[corner]);
            }
            due("four at one", ring().well(7), 80);
        });
        sentence("-2: there is none such.", () -> {
            bounds("well", ring()::well, 0, 7, -2);
            bounds("well", least()::well, 0, 0, -2);
            due(NO_STATE, nothing().well(0), -2);
        });
        section("8");
        sentence("Of a NAME, what 0: where it lives, 1: ink as told, 2: loops, 3: how long its WALK is.", () -> {
            LeashedNames x = Check.of(told(8, 1, 0, "name at 0 ink 0 loops 0;name at 7 ink 40 loops 59" + many(8, " walks 0") + ";"));
            int[] most = {7, 40, 59, 8};
            for (int what = 0; what < 4; what++) {
                due("the least of " + what, x.name(0, what), 0);
                due("the most of " + what, x.name(1, what), most[what]);
            }
            LeashedNames y = Check.of(told(1, 1, 0, "well 0 feeds 20;name at 0 ink 7 loops 0;"));
            due("as told, not as fed", y.name(0, 1), 7);
        });
        sentence("-2: there are none such.", () -> {
            bounds("name", n -> ring().name(n, 3), 0, 4, -2);
            bounds("what", n -> ring().name(4, n), 0, 3, -2);
            bounds("name", n -> alike(1, 0, "").name(n, 0), 0, 0, -2);
            due("none", least().name(0, 0), -2);
            due(NO_STATE, nothing().name(0, 0), -2);
        });
        section("9");
        sentence("The CORNER at place i of its WALK.", () -> {
            LeashedNames x = ring();
            for (int i = 0; i < 8; i++) {
                due("walk(0, " + i + ")", x.walk(0, i), (i + 1) % 8);
                due("walk(4, " + i + ")", x.walk(4, i), 4);
            }
        });
        sentence("-2: there are none such.", () -> {
            bounds("name", n -> ring().walk(n, 7), 0, 4, -2);
            bounds("place", n -> ring().walk(4, n), 0, 7, -2);
            bounds("place", n -> Check.of(LINE).walk(0, n), 0, 2, -2);
            due("without a walk", Check.of(LINE).walk(1, 0), -2);
            due(NO_STATE, nothing().walk(0, 0), -2);
            LeashedNames x = ring();
            Check.tell(x, LINE);
            due("of the state before it had more", x.walk(0, 3), -2);
        });
        section("10");
        sentence("NAMES of a CONTRACT, as bits.", () -> {
            due("the least", ring().contract(4), 3);
            due("of three", ring().contract(5), 19);
            due("the last ones", alike(5, 0, "contract 4 3 2;").contract(0), 28);
        });
        sentence("-2: there is none such.", () -> {
            bounds("contract", ring()::contract, 0, 5, -2);
            bounds("contract", alike(2, 0, "contract 0 1;")::contract, 0, 0, -2);
            due("none", least().contract(0), -2);
            due(NO_STATE, nothing().contract(0), -2);
        });
    }

    // ---- 11 to 19, step by step ----

    private void stepByStep() {
        section("11");
        sentence("The CORNER of a NAME at a STEP.", () -> {
            LeashedNames x = ring();
            for (int step : new int[] {0, 1, 7, 8, 19, 20}) {
                due("at(0, " + step + ")", x.at(0, step), step % 8);
                due("at(4, " + step + ")", x.at(4, step), 4);
            }
        });
        sentence("-2: there are none such.", () -> nameAndStep(true));
        section("12");
        sentence("Its ink at the end of a STEP.", () -> {
            LeashedNames x = ring();
            int[] want = {40, 39, 38, 37, 35, 34, 33, 60, 59};
            for (int step = 0; step < 9; step++) {
                due("ink(0, " + step + ")", x.ink(0, step), want[step]);
            }
            due("ink(0, 20)", x.ink(0, 20), 55);
            due("none is less than 0", alike(1, 0, "").ink(0, 1), 0);
        });
        sentence("-2 likewise.", () -> nameAndStep(false));
        section("13");
        sentence("NAMES that are awake (II) at the end of a STEP, as bits.", () -> {
            LeashedNames x = sleepers();
            int[] want = {7, 3, 3, 2};
            for (int step = 0; step < 4; step++) {
                due("awake(" + step + ")", x.awake(step), want[step]);
            }
            due("all", ring().awake(20), 31);
            due("signing took the last ink", alike(2, 1, "contract 0 1;").awake(0), 0);
            due("no names", least().awake(1), 0);
        });
        sentence("-2: there is none such, no STATE.", () -> {
            stepBounds(n -> ring().awake(n), n -> least().awake(n));
            due(NO_STATE, nothing().awake(0), -2);
        });
        section("14");
        sentence("NAMES at a CORNER at a STEP, as bits.", () -> {
            LeashedNames x = ring();
            due("here(4, 0)", x.here(4, 0), 16);
            due("here(4, 20)", x.here(4, 20), 17);
            due("nobody", x.here(7, 0), 0);
            due("here(7, 20)", x.here(7, 20), 8);
            due("all", alike(5, 0, "").here(0, 1), 31);
            due("no names", least().here(0, 0), 0);
        });
        sentence("-2: there are none such.", () -> {
            stepBounds(n -> ring().here(7, n), n -> least().here(0, n));
            bounds("corner", n -> ring().here(n, 20), 0, 7, -2);
            bounds("corner", n -> least().here(n, 0), 0, 0, -2);
            due(NO_STATE, nothing().here(0, 0), -2);
        });
        sleepAndGo();
        section("18");
        sentence("CORNERS at which it ever is, as bits.", () -> {
            due("all", ring().sees(0), 255);
            due("one", ring().sees(4), 16);
            due("at the last step, too", Check.of(ring(7, 0, 0)).sees(0), 255);
            due("a step less", Check.of(ring(6, 0, 0)).sees(0), 127);
        });
        sentence("-2 likewise.", () -> nameBounds(n -> ring().sees(n), n -> least().sees(n)));
        section("19");
        sentence("Ink that it gets from WELLS in all STEPS (what is above 60 aside).", () -> {
            int[] want = {36, 35, 34, 41, 0};
            for (int name = 0; name < 5; name++) {
                due("drinks(" + name + ")", ring().drinks(name), want[name]);
            }
            due("at step 0 and 1", Check.of(told(1, 1, 0, "well 0 feeds 1;name at 0 ink 0 loops 0;")).drinks(0), 2);
            due("20, then 1", Check.of(told(1, 1, 0, "well 0 feeds 20;name at 0 ink 40 loops 0;")).drinks(0), 21);
            due("19, then 2", Check.of(told(1, 1, 0, "well 0 feeds 19;name at 0 ink 40 loops 0;")).drinks(0), 19 + 2);
            due("coming with the last ink", Check.of(told(2, 1, 0, "street 0 to 1;" + many(4, "well 1 feeds 20;")
                    + "name at 0 ink 1 loops 0 walks 1;")).drinks(0), 60);
            due("60, then 1", Check.of(told(1, 1, 0, many(4, "well 0 feeds 20;") + "name at 0 ink 0 loops 0;")).drinks(0), 61);
        });
        sentence("-2 likewise.", () -> nameBounds(n -> ring().drinks(n), n -> least().drinks(n)));
    }

    /** Ink 3, 4, 1 and 0 for three steps. */
    private static LeashedNames sleepers() {
        return Check.of(told(1, 3, 0, "name at 0 ink 3 loops 0;name at 0 ink 4 loops 0;name at 0 ink 1 loops 0;"
                + "name at 0 ink 0 loops 0;"));
    }

    private void nameAndStep(boolean ofPlace) {
        LeashedNames x = ring();
        LeashedNames y = alike(1, 0, "");
        bounds("name", n -> ofPlace ? x.at(n, 20) : x.ink(n, 20), 0, 4, -2);
        bounds("step", n -> ofPlace ? x.at(4, n) : x.ink(4, n), 0, 20, -2);
        bounds("name", n -> ofPlace ? y.at(n, 1) : y.ink(n, 1), 0, 0, -2);
        bounds("step", n -> ofPlace ? y.at(0, n) : y.ink(0, n), 0, 1, -2);
        due("no names", ofPlace ? least().at(0, 0) : least().ink(0, 0), -2);
        due(NO_STATE, ofPlace ? nothing().at(0, 0) : nothing().ink(0, 0), -2);
    }

    private void stepBounds(Asked ofTwenty, Asked ofOne) {
        bounds("step", ofTwenty, 0, 20, -2);
        bounds("step", ofOne, 0, 1, -2);
    }

    private void nameBounds(Asked ofFive, Asked ofNone) {
        bounds("name", ofFive, 0, 4, -2);
        due("no names", ofNone.of(0), -2);
        due("no names", ofNone.of(-1), -2);
    }

    private void sleepAndGo() {
        section("15");
        sentence("The first STEP at whose end a NAME has no ink.", () -> {
            int[] want = {3, -1, 1, 0};
            for (int name = 0; name < 4; name++) {
                due("sleeps(" + name + ")", sleepers().sleeps(name), want[name]);
            }
            LeashedNames x = Check.of(told(1, 2, 0, "well 0 feeds 1;" + many(2, "name at 0 ink 0 loops 0;") + "contract 0 1;"));
            due("fed, it has signed", x.sleeps(0), 0);
            due("it wakes again", x.ink(0, 1), 1);
        });
        sentence("NONE: at none; -2: there is none such.", () -> {
            due("ink 1 at the last step", alike(1, 2, "").sleeps(0), -1);
            due("no ink at the last step", alike(1, 1, "").sleeps(0), 1);
            nameBounds(n -> ring().sleeps(n), n -> least().sleeps(n));
            due(NO_STATE, nothing().sleeps(0), -2);
        });
        section("16");
        sentence("STREETS along which a NAME goes in all.", () -> {
            due("none", ring().goes(4), 0);
            for (int steps : new int[] {1, 19, 20}) {
                due("each step", Check.of(ring(steps, 0, 0)).goes(0), steps);
            }
            due("with ink for one", Check.of(told(2, 9, 0, "street 0 to 1;name at 0 ink 1 loops 0 walks 1 walks 0;")).goes(0), 1);
        });
        sentence("-2 likewise.", () -> nameBounds(n -> ring().goes(n), n -> least().goes(n)));
        section("17");
        sentence("From how many STEPS to the next it is awake and would go (by its WALK, or sent) to another CORNER, but there "
                + "is no STREET (rain aside).", this::beingStuck);
        sentence("-2 likewise.", () -> nameBounds(n -> ring().stuck(n), n -> least().stuck(n)));
    }

    private void beingStuck() {
        String names = "name at 0 ink 20 loops 0 walks 1;name at 0 ink 19 loops 0 walks 1;name at 0 ink 0 loops 0 walks 1;"
                + "name at 0 ink 40 loops 0 walks 0;name at 0 ink 40 loops 0;";
        int[] want = {20, 19, 0, 0, 0};
        for (int odds : new int[] {0, 10}) {
            LeashedNames x = Check.of(told(2, 20, 0, names).replace("odds 0", "odds " + odds));
            for (int name = 0; name < 5; name++) {
                due("stuck(" + name + ")", x.stuck(name), want[name]);
            }
            x.send(4, 1, 19);
            due("sent, from the last but one", x.stuck(4), 1);
            x.send(4, 1, 0);
            due("sent from step 0", x.stuck(4), 2);
            x.send(4, 0, 0);
            due("sent to where it is", x.stuck(4), 1);
        }
        LeashedNames x = Check.of(told(2, 20, 0, "street 1 to 0;" + names));
        due("a street", x.stuck(0), 0);
        x.close(0, 1);
        due("closed", x.stuck(0), 20);
        due("a walk to and fro", Check.of(told(3, 4, 0, "street 0 to 1;name at 0 ink 9 loops 0 walks 1 walks 2;")).stuck(0), 2);
    }

    // ---- 20 to 23, and 30, 31: contracts ----

    private void signing() {
        section("20");
        sentence("The STEP at which a CONTRACT is signed.", () -> {
            for (int contract = 0; contract < 4; contract++) {
                due("signed(" + contract + ")", ring().signed(contract), 4 - contract);
            }
            due("step 0", alike(2, 1, "contract 0 1;").signed(0), 0);
            due("the last step", Check.of(ring(4, 0, 0)).signed(0), 4);
        });
        sentence("NONE: at none; -2: there is none such.", () -> {
            due("never", ring().signed(4), -1);
            due("a step too late", Check.of(ring(3, 0, 0)).signed(0), -1);
            due("no ink", alike(2, 0, "contract 0 1;").signed(0), -1);
            contractBounds(n -> ring().signed(n), n -> least().signed(n));
            due(NO_STATE, nothing().signed(0), -2);
        });
        section("21");
        sentence("The CORNER at which it is.", () -> {
            due("corner 4", ring().where(0), 4);
            due("corner 0", alike(2, 1, "contract 0 1;").where(0), 0);
            due("corner 7", Check.of(told(8, 1, 0, many(2, "name at 7 ink 1 loops 0;") + "contract 0 1;")).where(0), 7);
            due("not where they are later", Check.of(told(2, 1, 0, "street 0 to 1;" + many(2, "name at 1 ink 9 loops 0 walks 0;")
                    + "contract 0 1;")).where(0), 1);
        });
        sentence("NONE: at none; -2 likewise.", () -> {
            due("never", ring().where(4), -1);
            due("together, but asleep", alike(2, 0, "contract 0 1;").where(0), -1);
            contractBounds(n -> ring().where(n), n -> least().where(n));
        });
        section("22");
        sentence("CONTRACTS signed to a STEP, as bits.", () -> {
            int[] want = {0, 8, 12, 14, 15, 15};
            for (int step = 0; step < 6; step++) {
                due("signs(" + step + ")", ring().signs(step), want[step]);
            }
            due("all at step 0", alike(2, 9, many(6, "contract 0 1;")).signs(0), 63);
            due("none", least().signs(1), 0);
        });
        sentence("-2: there is none such, no STATE.", () -> {
            stepBounds(n -> ring().signs(n), n -> least().signs(n));
            due(NO_STATE, nothing().signs(0), -2);
        });
        section("23");
        sentence("How many CONTRACTS of a NAME are signed in all.", () -> {
            int[] want = {1, 1, 1, 1, 4};
            for (int name = 0; name < 5; name++) {
                due("deeds(" + name + ")", ring().deeds(name), want[name]);
            }
            due("six", alike(2, 9, many(6, "contract 0 1;")).deeds(1), 6);
            due("none", alike(2, 0, "contract 0 1;").deeds(1), 0);
            due("at the last step", Check.of(ring(4, 0, 0)).deeds(0), 1);
            due("a step too late", Check.of(ring(3, 0, 0)).deeds(0), 0);
        });
        sentence("-2: there is none such.", () -> nameBounds(n -> ring().deeds(n), n -> least().deeds(n)));
        section("30");
        sentence("The first STEP at which a CONTRACT is signed.", () -> {
            due("step 1", ring().first(), 1);
            due("step 0", alike(2, 1, "contract 0 1;").first(), 0);
            due("the last step", Check.of(ring(1, 0, 0)).first(), 1);
            due("by the last contract", Check.of(told(2, 1, 0, many(2, "name at 0 ink 1 loops 0;") + "name at 1 ink 1 loops 0;"
                    + many(5, "contract 0 2;") + "contract 0 1;")).first(), 0);
        });
        sentence("NONE: at none; -2: there is no STATE.", () -> {
            due("no contract", least().first(), -1);
            due("none signed", alike(2, 0, "contract 0 1;").first(), -1);
            due(NO_STATE, nothing().first(), -2);
        });
        section("31");
        sentence("The first STEP at which all NAMES of a CONTRACT are at one CORNER, awake or not.", () -> {
            due("step 4", ring().lies(0), 4);
            due("step 0, asleep", alike(3, 0, "contract 0 1 2;").lies(0), 0);
            due("the last step", Check.of(ring(4, 0, 0)).lies(0), 4);
            due("not two of three", Check.of(told(2, 1, 0, many(2, "name at 0 ink 0 loops 0;") + "name at 1 ink 0 loops 0;"
                    + "contract 0 1 2;")).lies(0), -1);
        });
        sentence("NONE: at none; -2: there is none such.", () -> {
            due("never", ring().lies(4), -1);
            due("a step too late", Check.of(ring(3, 0, 0)).lies(0), -1);
            contractBounds(n -> ring().lies(n), n -> least().lies(n));
            due(NO_STATE, nothing().lies(0), -2);
        });
    }

    private void contractBounds(Asked ofSix, Asked ofNone) {
        bounds("contract", ofSix, 0, 5, -2);
        due("no contracts", ofNone.of(0), -2);
        due("no contracts", ofNone.of(-1), -2);
    }

    // ---- 24 to 29, and 32: who is with whom ----

    private void together() {
        section("24");
        sentence("The first STEP at which two NAMES (or one twice) are at one CORNER.", () -> {
            due("step 4", ring().meets(0, 4), 4);
            due("the other way round", ring().meets(4, 0), 4);
            due("the last step", Check.of(ring(4, 0, 0)).meets(0, 4), 4);
            due("step 0", alike(2, 0, "").meets(0, 1), 0);
            due("one twice", ring().meets(4, 4), 0);
        });
        sentence("NONE: at none; -2: there are none such.", () -> {
            due("never", ring().meets(0, 1), -1);
            due("a step too late", Check.of(ring(3, 0, 0)).meets(0, 4), -1);
            nameBounds(n -> ring().meets(n, 4), n -> least().meets(n, n));
            nameBounds(n -> ring().meets(4, n), n -> least().meets(0, n));
            refused("one twice", n -> ring().meets(n, n), 0, 4, -2);
        });
        section("25");
        sentence("At how many STEPS they are.", () -> {
            due("at 4, 12 and 20", ring().often(0, 4), 3);
            due("at 4 and 12", Check.of(ring(19, 0, 0)).often(0, 4), 2);
            due("never", ring().often(0, 1), 0);
            due("one twice", ring().often(4, 4), 21);
            due("steps 0 and 1", alike(2, 0, "").often(0, 1), 2);
        });
        sentence("-2 likewise.", () -> {
            nameBounds(n -> ring().often(n, 4), n -> least().often(n, n));
            nameBounds(n -> ring().often(4, n), n -> least().often(0, n));
        });
        section("26");
        sentence("The most NAMES at one CORNER at one STEP.", () -> {
            due("two", ring().pack(), 2);
            due("all", alike(5, 0, "").pack(), 5);
            due("one alone", alike(1, 0, "").pack(), 1);
            due("no names", least().pack(), 0);
            String meeting = "street 0 to 1;name at 0 ink 1 loops 0 walks 1;name at 1 ink 0 loops 0;";
            due("at the last step alone", Check.of(told(2, 1, 0, meeting)).pack(), 2);
            String parting = "street 0 to 1;name at 0 ink 1 loops 0 walks 1;name at 0 ink 0 loops 0;";
            due("at step 0 alone", Check.of(told(2, 1, 0, parting)).pack(), 2);
            due("not all steps together", Check.of(told(2, 20, 0, "name at 0 ink 0 loops 0;name at 1 ink 0 loops 0;")).pack(), 1);
        });
        sentence("-2: there is no STATE.", () -> due(NO_STATE, nothing().pack(), -2));
        section("27");
        sentence("The CORNER at which most NAMES are, all STEPS together, the least of several.", () -> {
            due("corner 4", ring().busy(), 4);
            due("no names", least().busy(), 0);
            due("the last corner", Check.of(told(8, 1, 0, "name at 7 ink 0 loops 0;")).busy(), 7);
            due("the least of two", Check.of(told(8, 1, 0, "name at 7 ink 0 loops 0;name at 3 ink 0 loops 0;")).busy(), 3);
            String once = "street 0 to 1;name at 0 ink 1 loops 0 walks 1;";
            due("once each: the least", Check.of(told(2, 1, 0, once)).busy(), 0);
            due("the last step counts", Check.of(told(2, 2, 0, once)).busy(), 1);
        });
        sentence("-2: there is no STATE.", () -> due(NO_STATE, nothing().busy(), -2));
        section("28");
        sentence("NAMES with no other one at their CORNER at a STEP, as bits.", () -> {
            due("all", ring().lone(0), 31);
            due("all but two", ring().lone(4), 14);
            due("the last step", ring().lone(20), 14);
            due("none", alike(5, 0, "").lone(1), 0);
            due("one alone", alike(1, 0, "").lone(0), 1);
            due("no names", least().lone(0), 0);
        });
        sentence("-2: there is none such, no STATE.", () -> {
            stepBounds(n -> ring().lone(n), n -> least().lone(n));
            due(NO_STATE, nothing().lone(0), -2);
        });
        section("29");
        sentence("Ink of all NAMES at the end of a STEP.", () -> {
            due("200", ring().total(0), 200);
            due("55 54 53 60 16", ring().total(20), 238);
            due("the most", Check.of(told(1, 1, 0, many(4, "well 0 feeds 20;") + many(5, "name at 0 ink 40 loops 0;"))).total(1), 300);
            due("no ink", alike(5, 0, "").total(0), 0);
            due("no names", least().total(0), 0);
        });
        sentence("-2 likewise.", () -> {
            stepBounds(n -> ring().total(n), n -> least().total(n));
            due(NO_STATE, nothing().total(0), -2);
        });
        section("32");
        sentence("The NAME that has no ink at the end of the earliest STEP, the first of several.", () -> {
            due("at step 0", sleepers().thirst(), 3);
            due("the first of several", alike(5, 1, "").thirst(), 0);
            due("name 0 alone", Check.of(told(1, 5, 0, "name at 0 ink 5 loops 0;name at 0 ink 6 loops 0;")).thirst(), 0);
            due("at the last step", Check.of(told(1, 2, 0, "name at 0 ink 3 loops 0;name at 0 ink 2 loops 0;")).thirst(), 1);
            due("the earliest", Check.of(told(1, 5, 0, "name at 0 ink 4 loops 0;name at 0 ink 3 loops 0;name at 0 ink 3 loops 0;"))
                    .thirst(), 1);
        });
        sentence("NONE: none ever; -2: there is no STATE.", () -> {
            due("ink 1 at the last step", alike(3, 2, "").thirst(), -1);
            due("no names", least().thirst(), -1);
            due(NO_STATE, nothing().thirst(), -2);
        });
    }

    // ---- 33 to 39, ways ----

    private static String row(int steps, String more) {
        StringBuilder streets = new StringBuilder();
        for (int i = 0; i < 7; i++) {
            streets.append("street " + i + " to " + (i + 1) + ";");
        }
        return told(8, steps, 0, streets + more);
    }

    private void ways() {
        section("33");
        sentence("How long the shortest WAY (IV) is from one CORNER to another one.", () -> {
            LeashedNames x = Check.of(row(1, ""));
            for (int corner = 0; corner < 8; corner++) {
                due("way(0, " + corner + ")", x.way(0, corner), corner);
                due("way(" + corner + ", 7)", x.way(corner, 7), 7 - corner);
            }
            due("the shorter one", ring().way(0, 5), 3);
        });
        sentence("NONE: there is none; -2: there are none such.", () -> {
            due("none", Check.of(told(2, 1, 0, "")).way(0, 1), -1);
            LeashedNames x = Check.of(row(1, ""));
            x.close(6, 1);
            due("none", x.way(0, 7), -1);
            due("the one before it", x.way(0, 6), 6);
            bounds("corner", n -> ring().way(n, 7), 0, 7, -2);
            bounds("other", n -> ring().way(7, n), 0, 7, -2);
            bounds("both", n -> least().way(n, n), 0, 0, -2);
            due(NO_STATE, nothing().way(0, 0), -2);
        });
        section("34");
        sentence("CORNERS to which there is a WAY from one (it, too), as bits.", () -> {
            due("all", Check.of(row(1, "")).reach(7), 255);
            due("it alone", Check.of(told(8, 1, 0, "")).reach(7), 128);
            due("it alone", least().reach(0), 1);
            LeashedNames x = Check.of(row(1, ""));
            x.close(3, 1);
            due("0 to 3", x.reach(0), 15);
            due("4 to 7", x.reach(7), 240);
        });
        sentence("-2: there is none such.", () -> {
            bounds("corner", n -> ring().reach(n), 0, 7, -2);
            bounds("corner", n -> least().reach(n), 0, 0, -2);
            due(NO_STATE, nothing().reach(0), -2);
        });
        gathering();
        cutting();
    }

    private void gathering() {
        section("35");
        sentence("MEET: the fewest STEPS in which two NAMES, each going (IV), or staying, as it likes from where it lives, are "
                + "at one CORNER.", () -> {
            for (int home = 0; home < 8; home++) {
                LeashedNames x = Check.of(row(1, "name at 0 ink 0 loops 0;name at " + home + " ink 0 loops 0;"));
                due("apart by " + home, x.soon(0, 1), (home + 1) / 2);
                due("the other way round", x.soon(1, 0), (home + 1) / 2);
            }
            due("one twice", ring().soon(4, 4), 0);
        });
        sentence("NONE: never; -2: there are none such.", () -> {
            due("never", Check.of(told(2, 9, 0, "name at 0 ink 9 loops 0;name at 1 ink 9 loops 0;")).soon(0, 1), -1);
            nameBounds(n -> ring().soon(n, 4), n -> least().soon(n, n));
            nameBounds(n -> ring().soon(4, n), n -> least().soon(0, n));
        });
        section("36");
        sentence("The fewest STEPS in which all NAMES of a CONTRACT can be at one CORNER so.", () -> {
            int[] want = {2, 2, 1, 1, 1, 2};
            for (int contract = 0; contract < 6; contract++) {
                due("gather(" + contract + ")", ring().gather(contract), want[contract]);
            }
            due("at once", alike(3, 0, "contract 0 1 2;").gather(0), 0);
            due("three, the ends seven apart", Check.of(row(1, ends())).gather(0), 4);
        });
        sentence("NONE: never; -2: there is none such.", () -> {
            due("one of three never", Check.of(told(3, 9, 0, many(2, "name at 0 ink 0 loops 0;") + "name at 1 ink 0 loops 0;"
                    + "contract 0 1 2;")).gather(0), -1);
            contractBounds(n -> ring().gather(n), n -> least().gather(n));
            due(NO_STATE, nothing().gather(0), -2);
        });
        section("37");
        sentence("The CORNER at which they can, the least of several.", () -> {
            due("2, not 6", ring().hall(0), 2);
            due("0, not 1", ring().hall(4), 0);
            due("2 alone", ring().hall(5), 2);
            due("3, not 4", Check.of(row(1, ends())).hall(0), 3);
            due("where they live", Check.of(told(8, 1, 0, many(2, "name at 7 ink 0 loops 0;") + "contract 0 1;")).hall(0), 7);
        });
        sentence("NONE, -2 likewise.", () -> {
            due("never", Check.of(told(2, 9, 0, "name at 0 ink 0 loops 0;name at 1 ink 0 loops 0;contract 0 1;")).hall(0), -1);
            contractBounds(n -> ring().hall(n), n -> least().hall(n));
            due(NO_STATE, nothing().hall(0), -2);
        });
    }

    private static String ends() {
        return "name at 0 ink 0 loops 0;name at 7 ink 0 loops 0;name at 4 ink 0 loops 0;contract 0 1 2;";
    }

    private void cutting() {
        String twelve = told(2, 1, 0, many(12, "street 0 to 1;") + "name at 0 ink 0 loops 0;name at 1 ink 0 loops 0;"
                + "name at 1 ink 0 loops 0;");
        section("38");
        sentence("CUT: the fewest STREETS (of open ones) that must be closed so that two NAMES can never meet so.", () -> {
            due("two of a ring", ring().cut(0, 1), 2);
            LeashedNames x = Check.of(twelve);
            for (int open = 12; open >= 0; open--) {
                due(open + " of them", x.cut(0, 1), open);
                due("the other way round", x.cut(1, 0), open);
                x.close(open - 1, 1);
            }
        });
        sentence("NONE: they live at one CORNER; -2: there are none such, one twice.", () -> {
            due("at one corner", Check.of(twelve).cut(1, 2), -1);
            for (int name = -1; name < 6; name++) {
                due("one twice", ring().cut(name, name), -2);
            }
            nameBounds(n -> ring().cut(n, n == 4 ? 3 : 4), n -> least().cut(n, 1));
            nameBounds(n -> ring().cut(n == 4 ? 3 : 4, n), n -> least().cut(1, n));
        });
        section("39");
        sentence("Which, as bits: the least set of so few.", () -> {
            due("0 and 1 of a ring", ring().cuts(0, 1), 3);
            due("0 and 4 of a ring", ring().cuts(0, 4), 17);
            due("0 of a row", Check.of(row(1, ends())).cuts(0, 1), 1);
            due("one rather than two lesser ones", Check.of(told(3, 1, 0, many(2, "street 0 to 1;") + "street 1 to 2;"
                    + "name at 0 ink 0 loops 0;name at 2 ink 0 loops 0;")).cuts(0, 1), 4);
            LeashedNames x = Check.of(twelve);
            due("all of them", x.cuts(0, 1), 4095);
            x.close(0, 1);
            due("without the first", x.cuts(0, 1), 4094);
            x.close(0, 0);
            x.close(11, 1);
            due("without the last", x.cuts(0, 1), 2047);
            due("apart", Check.of(told(2, 1, 0, "name at 0 ink 0 loops 0;name at 1 ink 0 loops 0;")).cuts(0, 1), 0);
        });
        sentence("NONE, -2 likewise.", () -> {
            due("at one corner", Check.of(twelve).cuts(1, 2), -1);
            due("one twice", ring().cuts(4, 4), -2);
            nameBounds(n -> ring().cuts(n, n == 4 ? 3 : 4), n -> least().cuts(n, 1));
            nameBounds(n -> ring().cuts(n == 4 ? 3 : 4, n), n -> least().cuts(1, n));
        });
    }

    // ---- 40 to 45, something in place of what is told ----

    private void inPlace() {
        String five = many(5, "name at 0 ink 2 loops 0;") + "contract 0 1;contract 0 2;contract 3 4;";
        section("40");
        sentence("How many CONTRACTS are signed to the last STEP by a LAW (0 .. 3) in place of the one told.", () -> {
            int[] want = {3, 0, 2, 2};
            for (int toldLaw = 0; toldLaw < 4; toldLaw++) {
                LeashedNames x = Check.of(told(1, 1, toldLaw, five));
                for (int law = 0; law < 4; law++) {
                    due("by(" + law + ")", x.by(law), want[law]);
                }
                due("the one told stays", x.count(2), toldLaw);
                due("and what it signs", Integer.bitCount(x.signs(1)), want[toldLaw]);
            }
            due("to the last step", Check.of(ring(4, 0, 0)).by(3), 4);
            due("a step less", Check.of(ring(3, 0, 0)).by(3), 3);
        });
        sentence("-2: there is none such, no STATE.", () -> {
            bounds("law", n -> ring().by(n), 0, 3, -2);
            bounds("law", n -> least().by(n), 0, 3, -2);
            due(NO_STATE, nothing().by(0), -2);
        });
        section("41");
        sentence("The LAW by which most are, the least of several.", () -> {
            due("0", Check.of(told(1, 1, 3, five)).law(), 0);
            due("as many by each", ring().law(), 0);
            due("no contract", Check.of(LEAST.replace("law 0", "law 3")).law(), 0);
            String better = "street 0 to 1;well 1 feeds 1;" + many(2, "name at 0 ink 2 loops 0 walks 1;")
                    + "name at 0 ink 40 loops 0;contract 0 1 2;" + many(4, "contract 0 1;");
            due("1, not 2", Check.of(told(2, 4, 0, better)).law(), 1);
            due("3", Check.of(told(2, 4, 0, better + many(2, "name at 0 ink 1 loops 0;") + "contract 3 4;")).law(), 3);
        });
        sentence("-2: there is no STATE.", () -> due(NO_STATE, nothing().law(), -2));
        section("42");
        sentence("The least ink (0 .. 40) told for a NAME, in place of its own, by which just as many CONTRACTS (no more, no "
                + "fewer) are signed to the last STEP as by 40.", () -> {
            due("ink 1 is left at step 4", ring().needs(0), 5);
            due("four times", ring().needs(4), 8);
            due("none to sign", alike(1, 40, "").needs(0), 0);
            due("for one", alike(2, 1, "contract 0 1;").needs(0), 1);
            LeashedNames x = Check.of(told(1, 20, 1, many(2, "name at 0 ink 40 loops 0;") + "name at 0 ink 5 loops 0;contract 0 1;"));
            due("by 20 one more is signed", x.needs(2), 21);
            due("by its own, too", x.signed(0), 5);
            due("its own stays", x.name(2, 1), 5);
        });
        sentence("-2: there is none such.", () -> {
            nameBounds(n -> ring().needs(n), n -> least().needs(n));
            due(NO_STATE, nothing().needs(0), -2);
        });
        section("43");
        sentence("The CORNER where a NAME should live, in place of its own, so that most CONTRACTS are signed to the last STEP, "
                + "the least of several.", () -> {
            LeashedNames x = Check.of(told(8, 1, 0, "name at 7 ink 9 loops 0;name at 0 ink 9 loops 0;contract 0 1;"));
            due("corner 0", x.lives(0), 0);
            due("corner 7", x.lives(1), 7);
            due("its own stays", x.name(0, 0), 7);
            due("none to sign: the least", Check.of(told(8, 1, 0, "name at 7 ink 9 loops 0;")).lives(0), 0);
            String either = "name at 7 ink 9 loops 0;name at 5 ink 9 loops 0;name at 3 ink 9 loops 0;contract 0 1;contract 0 2;";
            due("3, not 5", Check.of(told(8, 1, 0, either)).lives(0), 3);
            due("two at 5", Check.of(told(8, 1, 0, either + "contract 1 0;")).lives(0), 5);
        });
        sentence("-2 likewise.", () -> nameBounds(n -> ring().lives(n), n -> least().lives(n)));
        digging();
        shutting();
    }

    private void digging() {
        section("44");
        sentence("The CORNER at which a WELL more, feeding 20, makes most CONTRACTS signed to the last STEP, if more than now, "
                + "the least of several.", () -> {
            String asleep = many(2, "name at 7 ink 0 loops 0;") + "contract 0 1;";
            due("the last corner", Check.of(told(8, 1, 0, asleep)).dig(), 7);
            due("a fifth one", Check.of(told(8, 1, 0, many(4, "well 0 feeds 1;") + asleep)).dig(), 7);
            String two = many(2, "name at 3 ink 0 loops 0;") + "contract 2 3;";
            due("3, not 7", Check.of(told(8, 1, 0, asleep + two)).dig(), 3);
            due("more at 7", Check.of(told(8, 1, 0, asleep + two + "contract 0 1;")).dig(), 7);
            LeashedNames x = Check.of(toAndFro());
            due("nobody wakes up", x.dig(), -1);
            x.send(0, 3, 18);
            due("20 last for 19 steps", x.dig(), 0);
            x.undo();
            x.send(0, 4, 19);
            due("20 do not last for 20 steps", x.dig(), -1);
            due("no well is made", x.well(0), 0);
        });
        sentence("NONE: none; -2: there is no STATE.", () -> {
            due("as many as now", alike(2, 9, "contract 0 1;").dig(), -1);
            due("none to sign", least().dig(), -1);
            due(NO_STATE, nothing().dig(), -2);
        });
    }

    /** Without ink, name 0 would go 0 1 2 1 2 .., and never to 3 or 4. */
    private static String toAndFro() {
        return told(5, 20, 0, "street 0 to 1;street 1 to 2;street 2 to 3;street 1 to 4;name at 0 ink 0 loops 0"
                + many(4, " walks 1 walks 2") + ";name at 3 ink 40 loops 0;name at 4 ink 40 loops 0;contract 0 1;contract 0 2;");
    }

    private void shutting() {
        section("45");
        sentence("The STREET without which most are signed, if more than now, the first of several.", () -> {
            String away = "name at 0 ink 9 loops 0 walks 1;name at 2 ink 9 loops 0 walks 0;contract 0 1;";
            String streets = many(10, "street 2 to 3;") + "street 0 to 2;street 0 to 1;";
            LeashedNames x = Check.of(told(4, 1, 0, streets + away));
            due("the last street", x.shut(), 11);
            due("it is open yet", x.street(11, 2), 0);
            LeashedNames y = Check.of(told(4, 1, 0, "street 0 to 1;street 0 to 1;street 0 to 2;" + away));
            due("one of two is not enough", y.shut(), -1);
            y.close(0, 1);
            due("one of one open", y.shut(), 1);
            y.close(1, 1);
            due("closed already", y.shut(), -1);
            String either = "street 0 to 3;street 1 to 3;street 2 to 0;street 2 to 1;name at 0 ink 9 loops 0 walks 3;"
                    + "name at 1 ink 9 loops 0 walks 3;name at 2 ink 9 loops 0 walks 0 walks 2 walks 1;contract 0 2;contract 1 2;";
            due("the first of several", Check.of(told(4, 3, 0, either)).shut(), 0);
            due("more without the other", Check.of(told(4, 3, 0, either + "contract 2 1;")).shut(), 1);
        });
        sentence("NONE: none; -2 likewise.", () -> {
            due("as many as now", Check.of(told(2, 1, 0, "street 0 to 1;" + many(2, "name at 0 ink 9 loops 0;") + "contract 0 1;"))
                    .shut(), -1);
            due("none to sign", Check.of(LINE).shut(), -1);
            due("no streets", least().shut(), -1);
            due(NO_STATE, nothing().shut(), -2);
        });
    }

    // ---- 46 to 50, by rows ----

    private static long[] sixty(long first, long second) {
        long[] numbers = new long[60];
        for (int i = 0; i < 60; i += 2) {
            numbers[i] = first;
            numbers[i + 1] = second;
        }
        return numbers;
    }

    private static long[] sixtyButLast(long first, long second, long lastFirst, long lastSecond) {
        long[] numbers = sixty(first, second);
        numbers[58] = lastFirst;
        numbers[59] = lastSecond;
        return numbers;
    }

    private void guesses() {
        section("46");
        sentence("SEEN (V): CORNERS where a NAME can live by a SLOT's row, as bits.", () -> {
            due("all", with(LINE, 0, 2, 2).homes(0, 0), 15);
            due("some", with(LINE, 0, 1, 1).homes(0, 0), 7);
            due("none", with(LINE, 0, 1, 0).homes(0, 0), 0);
            due("30 pairs", with(LINE, 3, sixty(1, 1)).homes(3, 0), 7);
            due("the last of 30", with(LINE, 3, sixtyButLast(1, 1, 0, 2)).homes(3, 0), 4);
            due("no numbers: all", with(LINE, 0).homes(0, 2), 15);
            due("the only corner", with(told(1, 1, 0, "name at 0 ink 0 loops 0;"), 0, 1, 0).homes(0, 0), 1);
        });
        sentence("-2: there is no such SLOT, NAME, a number is none such (asked last), not two each; -6: it has nothing.", () -> {
            homesBounds((x, slot, name) -> x.homes(slot, name));
        });
        section("47");
        sentence("The STEP of which to know where it was leaves fewest of these at worst, if fewer than now, the first of several.", () -> {
            due("step 0", with(LINE, 0).ask(0, 0), 0);
            due("of two", with(LINE, 0, 1, 1, 0, 1).ask(0, 0), -1);
            due("two corners", with(told(2, 1, 0, "name at 0 ink 0 loops 0;"), 0).ask(0, 0), 0);
        });
        sentence("NONE: none; -2, -6 likewise.", () -> {
            due("one is left", with(LINE, 0, 1, 3).ask(0, 0), -1);
            due("none is left", with(LINE, 0, 1, 0).ask(0, 0), -1);
            due("one corner", with(told(1, 1, 0, "name at 0 ink 0 loops 0;"), 0).ask(0, 0), -1);
            homesBounds((x, slot, name) -> x.ask(slot, name));
        });
        section("48");
        sentence("How many it leaves at worst (as now without).", () -> {
            due("of four", with(LINE, 0).leaves(0, 0), 1);
            due("of one", with(LINE, 0, 1, 3).leaves(0, 0), 1);
            due("of none", with(LINE, 0, 1, 0).leaves(0, 0), 0);
        });
        sentence("-2, -6 likewise.", () -> homesBounds((x, slot, name) -> x.leaves(slot, name)));
        sniffing();
    }

    /** A call that asks a row of a SLOT for a NAME. */
    private interface OfRow {
        int of(LeashedNames x, int slot, int name);
    }

    private void homesBounds(OfRow call) {
        LeashedNames x = ring();
        refused("a slot with nothing", n -> call.of(x, n, 0), 0, 3, -2);
        for (int slot = 0; slot < 4; slot++) {
            due("it has nothing", call.of(x, slot, 0), -6);
            due("no such name, ahead of it", call.of(x, slot, 5), -2);
            fill(x, slot, 0, 0, 0);
        }
        bounds("slot", n -> call.of(x, n, 4), 0, 3, -2);
        bounds("name", n -> call.of(x, 3, n), 0, 4, -2);
        bounds("step", n -> call.of(with(ring(20, 0, 0), 0, n, 7), 0, 0), 0, 20, -2);
        bounds("corner", n -> call.of(with(ring(20, 0, 0), 0, 20, n), 0, 0), 0, 7, -2);
        bounds("step", n -> call.of(with(LINE, 0, n, 3), 0, 2), 0, 3, -2);
        bounds("corner", n -> call.of(with(LINE, 0, 3, n), 0, 2), 0, 3, -2);
        due("far out", call.of(with(LINE, 0, 1L << 32, 0), 0, 0), -2);
        due("far out", call.of(with(LINE, 0, 0, 1L << 63), 0, 0), -2);
        due("the last of 30", call.of(with(LINE, 0, sixtyButLast(0, 1, 4, 0)), 0, 0), -2);
        due("behind one that rules all out", call.of(with(LINE, 0, 1, 0, 1, 4), 0, 0), -2);
        bounds("how many numbers, by two", n -> call.of(with(LINE, 0, new long[n < 0 || n > 30 ? 1 : 2 * n]), 0, 0), 0, 30, -2);
        for (int n = 1; n < 60; n += 2) {
            due(n + " numbers", call.of(with(LINE, 0, new long[n]), 0, 0), -2);
        }
        LeashedNames none = nothing();
        fill(none, 0, 0, 0, 0);
        due(NO_STATE, call.of(none, 0, 0), -2);
        due(NO_STATE, call.of(none, 1, 0), -2);
    }

    private void sniffing() {
        section("49");
        sentence("SNIFFS (VI): NAMES whose a forgery can be by a SLOT's row, as bits.", () -> {
            due("all", with(LINE, 0).sniffs(0), 7);
            due("one", with(LINE, 0, 9, 7).sniffs(0), 1);
            due("nobody", with(LINE, 0, 2, 2).sniffs(0), 0);
            due("30 pairs", with(LINE, 3, sixty(2, 0)).sniffs(3), 6);
            due("the last of 30", with(LINE, 3, sixtyButLast(2, 0, 9, 3)).sniffs(3), 6);
            due("the last of 30", with(LINE, 3, sixtyButLast(2, 0, 4, 2)).sniffs(3), 4);
            due("no names", with(LEAST, 0).sniffs(0), 0);
        });
        sentence("-2: there is no such SLOT, no STATE, a number is none such (left over 0 .. 8; asked last), not two each; "
                + "-6: it has nothing.", () -> sniffsBounds((x, slot, name) -> x.sniffs(slot)));
        section("50");
        sentence("By how many (2 .. 9) to count next leaves fewest of these at worst, if fewer than now, the least of several.", () -> {
            due("by 2, not by 3 or 4", next(0, 1), 2);
            due("by 3", next(0, 2), 3);
            due("by 4", next(0, 6), 4);
            due("by 5, since 12 is left by 2, 3, 4 and 6", next(0, 12), 5);
            due("by 3, the one that is ruled out aside", with(told(1, 1, 0, "name at 0 ink 0 loops 0;name at 0 ink 0 loops 4;"
                    + "name at 0 ink 0 loops 3;"), 0, 4, 0).next(0), 3);
            due("by 9, of five", with(told(1, 1, 0, "name at 0 ink 0 loops 0;name at 0 ink 0 loops 40;name at 0 ink 0 loops 24;"
                    + "name at 0 ink 0 loops 16;name at 0 ink 0 loops 56;"), 0).next(0), 9);
        });
        sentence("NONE: none; -2, -6 likewise.", () -> {
            due("one is left", with(LINE, 0, 9, 7).next(0), -1);
            due("nobody is left", with(LINE, 0, 2, 2).next(0), -1);
            due("alike", next(7, 7), -1);
            due("no names", with(LEAST, 0).next(0), -1);
            sniffsBounds((x, slot, name) -> x.next(slot));
        });
    }

    private static int next(int loops, int other) {
        return with(told(1, 1, 0, "name at 0 ink 0 loops " + loops + ";name at 0 ink 0 loops " + other + ";"), 0).next(0);
    }

    private void sniffsBounds(OfRow call) {
        LeashedNames x = ring();
        refused("a slot with nothing", n -> call.of(x, n, 0), 0, 3, -2);
        for (int slot = 0; slot < 4; slot++) {
            due("it has nothing", call.of(x, slot, 0), -6);
            fill(x, slot, 0, 2, 0);
        }
        bounds("slot", n -> call.of(x, n, 0), 0, 3, -2);
        bounds("by", n -> call.of(with(LINE, 0, n, 0), 0, 0), 2, 9, -2);
        bounds("left over", n -> call.of(with(LINE, 0, 9, n), 0, 0), 0, 8, -2);
        bounds("left over, by 2", n -> call.of(with(LINE, 0, 2, n), 0, 0), 0, 8, -2);
        due("far out", call.of(with(LINE, 0, (1L << 32) + 2, 0), 0, 0), -2);
        due("far out", call.of(with(LINE, 0, 2, 1L << 63), 0, 0), -2);
        due("the last of 30", call.of(with(LINE, 0, sixtyButLast(2, 0, 1, 0)), 0, 0), -2);
        due("behind one that rules all out", call.of(with(LINE, 0, 2, 2, 2, 9), 0, 0), -2);
        for (int n = 1; n < 60; n += 2) {
            due(n + " numbers", call.of(with(LINE, 0, java.util.Arrays.copyOf(sixty(2, 0), n)), 0, 0), -2);
        }
        LeashedNames none = nothing();
        fill(none, 0, 0, 2, 0);
        due(NO_STATE, call.of(none, 0, 0), -2);
        due(NO_STATE, call.of(none, 1, 0), -2);
    }

    // ---- 51 to 56, shares, two who stay or walk, rain ----

    private void sharesAndRain() {
        section("51");
        sentence("What a set of NAMES (bits) is worth (VII).", () -> {
            due("nobody", ring().worth(0), 0);
            due("each alone", ring().worth(16), 0);
            due("all", ring().worth(31), 6);
            due("all but the last", ring().worth(15), 1);
            due("no contract", alike(5, 0, "").worth(31), 0);
            due("no names", least().worth(0), 0);
        });
        sentence("-2: there is no such set, no STATE.", () -> {
            bounds("set", n -> ring().worth(n), 0, 31, -2);
            bounds("set", n -> alike(1, 0, "").worth(n), 0, 1, -2);
            bounds("set", n -> least().worth(n), 0, 0, -2);
            due(NO_STATE, nothing().worth(0), -2);
        });
        section("52");
        sentence("What a NAME has of it, above (what 0), below (1).", () -> {
            LeashedNames x = alike(5, 0, many(6, "contract 0 1;"));
            due("three", x.share(0, 0), 3);
            due("of 1", x.share(0, 1), 1);
            due("nothing", x.share(4, 0), 0);
            due("of 1", x.share(4, 1), 1);
            due("a third", alike(3, 0, "contract 2 0 1;").share(1, 0), 1);
            due("a third", alike(3, 0, "contract 2 0 1;").share(1, 1), 3);
        });
        sentence("-2: there are none such.", () -> {
            nameBounds(n -> ring().share(n, 0), n -> least().share(n, 0));
            bounds("what", n -> ring().share(4, n), 0, 1, -2);
            due(NO_STATE, nothing().share(0, 0), -2);
        });
        section("53");
        sentence("GAME (VIII): pairs of choices of two NAMES at REST, as bits: 1 both walk, 2 the first one stays, 4 the other one, "
                + "8 both.", () -> {
            due("all four", alike(2, 9, "").rests(0, 1), 15);
            LeashedNames x = Check.of(told(3, 1, 0, "street 0 to 1;street 2 to 1;name at 0 ink 9 loops 0 walks 1;"
                    + "name at 2 ink 9 loops 0 walks 1;contract 0 1;"));
            due("both walk, or both stay", x.rests(0, 1), 1 | 8);
            LeashedNames y = Check.of(told(2, 4, 0, "street 0 to 1;name at 0 ink 9 loops 0 walks 1;name at 1 ink 9 loops 0 walks 0;"
                    + "contract 0 1;"));
            due("one of them stays", y.rests(0, 1), 2 | 4);
            LeashedNames chain = Check.of(told(3, 1, 0, "street 0 to 1;street 1 to 2;name at 0 ink 9 loops 0 walks 1;"
                    + "name at 1 ink 9 loops 0 walks 2;name at 2 ink 9 loops 0;contract 0 1;contract 1 2;"));
            due("one of them stays", chain.rests(0, 1), 2 | 4);
            due("one of them stays", chain.rests(1, 0), 2 | 4);
            LeashedNames z = Check.of(told(3, 1, 0, "street 0 to 1;name at 0 ink 9 loops 0 walks 1;name at 2 ink 9 loops 0;"));
            due("the first stays, the other as it likes", z.rests(0, 1), 2 | 8);
            due("told the other way round", z.rests(1, 0), 4 | 8);
        });
        sentence("-2: there are none such, one twice.", () -> {
            due("one twice", ring().rests(4, 4), -2);
            nameBounds(n -> ring().rests(n, n == 4 ? 3 : 4), n -> least().rests(n, 1));
            nameBounds(n -> ring().rests(n == 4 ? 3 : 4, n), n -> least().rests(1, n));
            due(NO_STATE, nothing().rests(0, 1), -2);
        });
        section("54");
        sentence("What the first of two GETS by the choices (1 it stays, 0 it walks; below 0, too).", () -> {
            due("20 streets, no contract", Check.of(ring(20, 0, 0).replace("contract 0 4;", "contract 2 4;")).gets(0, 1, 0, 0), -20);
            due("it stays", Check.of(ring(3, 0, 0)).gets(0, 1, 1, 0), 0);
            due("six contracts", alike(2, 9, many(6, "contract 0 1;")).gets(1, 0, 1, 1), 30);
            due("less than -2", Check.of(ring(3, 0, 0)).gets(0, 4, 0, 1), -3);
        });
        sentence("-1,000: there are none such, one twice.", () -> {
            due("one twice", ring().gets(4, 4, 0, 0), -1000);
            bounds("name", n -> ring().gets(n, n == 4 ? 3 : 4, 0, 0), 0, 4, -1000);
            bounds("other", n -> ring().gets(n == 4 ? 3 : 4, n, 0, 0), 0, 4, -1000);
            bounds("choice", n -> ring().gets(0, 4, n, 0), 0, 1, -1000);
            bounds("choice of the other", n -> ring().gets(0, 4, 1, n), 0, 1, -1000);
            due("no names", least().gets(0, 1, 0, 0), -1000);
            due(NO_STATE, nothing().gets(0, 1, 0, 0), -1000);
        });
        raining();
    }

    private void raining() {
        section("55");
        sentence("RAIN (IX) from STEPS 0 to one (0 .. 7, ahead of the last): the chance that a CONTRACT is signed to the STEP "
                + "behind it, above, below.", () -> {
            long below = 1;
            for (int step = 0; step <= 7; step++) {
                below *= 10;
                LeashedNames x = Check.of(wet(step + 1, 9));
                due("above", x.chance(0, step, 0), below - power(9, step + 1));
                due("below", x.chance(0, step, 1), below);
            }
            LeashedNames x = Check.of(ring(20, 0, 0));
            due("signed at step 4", x.chance(0, 3, 0), 1);
            due("not yet", x.chance(0, 2, 0), 0);
            due("for sure at step 0", Check.of(told(1, 1, 0, many(2, "name at 0 ink 9 loops 0;") + "contract 0 1;")
                    .replace("odds 0", "odds 10")).chance(0, 0, 0), 1);
        });
        sentence("-2: there are none such.", () -> {
            rainBounds((x, step, what) -> x.chance(0, step, what));
            contractBounds(n -> ring().chance(n, 0, 0), n -> least().chance(n, 0, 0));
            due(NO_STATE, nothing().chance(0, 0, 0), -2);
        });
        section("56");
        sentence("The mean number of CONTRACTS signed to it, above, below.", () -> {
            LeashedNames x = Check.of(wet(8, 9).replace(";contract 0 1", ";name at 1 ink 40 loops 0;contract 1 2;contract 0 1"));
            due("one for sure: above", x.mean(0, 0), 11);
            due("below", x.mean(0, 1), 10);
            due("step 7: above", x.mean(7, 0), 200000000 - power(9, 8));
            due("below", x.mean(7, 1), 100000000);
            due("six", alike(2, 9, many(6, "contract 0 1;")).mean(0, 0), 6);
            due("no contract", least().mean(0, 0), 0);
            due("of 1", least().mean(0, 1), 1);
        });
        sentence("-2: there are none such.", () -> {
            rainBounds((x, step, what) -> x.mean(step, what));
            due(NO_STATE, nothing().mean(0, 0), -2);
        });
    }

    private static long power(long base, int n) {
        return n == 0 ? 1 : base * power(base, n - 1);
    }

    private interface OfRain {
        long of(LeashedNames x, int step, int what);
    }

    private void rainBounds(OfRain call) {
        for (int steps : new int[] {1, 2, 7, 8, 9, 20}) {
            LeashedNames x = Check.of(wet(steps, 5));
            bounds("step of " + steps, n -> call.of(x, n, 1), 0, Math.min(steps - 1, 7), -2);
        }
        bounds("what", n -> call.of(Check.of(wet(3, 5)), 0, n), 0, 1, -2);
    }

    // ---- 57 to 60, acts ----

    private static LeashedNames afterActs(String text, int acts) {
        LeashedNames x = Check.of(text);
        for (int i = 0; i < acts; i++) {
            x.close(i % 3, 1 - i / 3 % 2);
        }
        return x;
    }

    private void acts() {
        section("57");
        sentence("A NAME is sent to a CORNER from a STEP (ahead of the last) to the next, in place of its WALK (of several the last "
                + "told): where it is at the last STEP then.", () -> {
            LeashedNames x = ring();
            due("from the last but one", x.send(0, 2, 19), 2);
            due("of several the last told", x.send(0, 3, 19), 3);
            due("of several the last told", x.send(0, 4, 19), 4);
            due("one alone is sent", x.at(1, 20), 5);
            for (int name = 1; name < 4; name++) {
                due("name " + name + " goes on to where it would", x.send(name, name + 1, 0), (name + 20) % 8);
            }
            due("from step 0, to where it is", x.send(4, 4, 0), 4);
            due("from step 0, to another", x.send(4, 5, 0), 4);
            due("at step 1", x.at(4, 1), 5);
            due("at step 0", x.at(4, 0), 4);
            due("its walk goes on behind it", x.at(4, 2), 4);
            due("at the last step", x.at(4, 20), 4);
        });
        sentence("-2: there are none such; -5: there are 30 acts (not taken back).", () -> {
            nameBounds(n -> ring().send(n, 0, 0), n -> least().send(n, 0, 0));
            bounds("corner", n -> ring().send(0, n, 0), 0, 7, -2);
            bounds("step", n -> ring().send(0, 0, n), 0, 19, -2);
            bounds("step", n -> alike(1, 9, "").send(0, 0, n), 0, 0, -2);
            due(NO_STATE, nothing().send(0, 0, 0), -2);
            refusedAct(x -> x.send(5, 0, 0), -2, 3);
            refusedAct(x -> x.send(0, 5, 0), -2, 3);
            refusedAct(x -> x.send(0, 0, 6), -2, 3);
            refusedAct(x -> x.send(0, 0, 0), -5, 30);
            thirtyActs(x -> x.send(0, 0, 0));
        });
        section("58");
        sentence("A STREET is closed (on 1), or open again (on 0): 1 if it was closed, else 0.", () -> {
            LeashedNames x = ring();
            for (int street : new int[] {0, 11}) {
                due("it was open", x.close(street, 0), 0);
                due("it was open", x.close(street, 1), 0);
                due("it was closed", x.close(street, 1), 1);
                due("closed", x.street(street, 2), 1);
                due("it was closed", x.close(street, 0), 1);
                due("open again", x.street(street, 2), 0);
            }
            due("each is an act", x.count(8), 8);
        });
        sentence("-2, -5 likewise.", () -> {
            bounds("street", n -> ring().close(n, 1), 0, 11, -2);
            bounds("on", n -> ring().close(11, n), 0, 1, -2);
            due("no streets", least().close(0, 1), -2);
            due(NO_STATE, nothing().close(0, 1), -2);
            refusedAct(x -> x.close(3, 1), -2, 3);
            refusedAct(x -> x.close(0, 2), -2, 3);
            refusedAct(x -> x.close(0, 1), -5, 30);
            refusedAct(x -> x.close(1, 0), -5, 30);
            thirtyActs(x -> x.close(0, 1));
        });
        takingBack();
    }

    /** A call on an object. */
    private interface Done {
        int to(LeashedNames x);
    }

    private void refusedAct(Done call, int code, int acts) {
        LeashedNames x = afterActs(TOWN, acts);
        List<Long> before = look(x);
        due("refused behind " + acts + " acts", call.to(x), code);
        same("refused behind " + acts + " acts", look(x), before);
    }

    private void thirtyActs(Done act) {
        LeashedNames x = afterActs(TOWN, 29);
        due("the 30th is refused", act.to(x) == -5 ? 1 : 0, 0);
        due("acts", x.count(8), 30);
        due("the 31st", act.to(x), -5);
        due("acts", x.count(8), 30);
        x.undo();
        due("one taken back: it is refused", act.to(x) == -5 ? 1 : 0, 0);
        due("the 31st again", act.to(x), -5);
    }

    private void takingBack() {
        section("59");
        sentence("The latest act is taken back: how many there are.", () -> {
            LeashedNames x = afterActs(TOWN, 30);
            for (int left = 29; left >= 0; left--) {
                due("undo", x.undo(), left);
                due("count(8)", x.count(8), left);
                for (int street = 0; street < 3; street++) {
                    due("street " + street, x.street(street, 2), afterActs(TOWN, left).street(street, 2));
                }
            }
            same("all taken back", look(x), look(Check.of(TOWN)));
            LeashedNames y = Check.of(TOWN);
            y.send(0, 0, 0);
            y.send(0, 1, 0);
            y.undo();
            due("the send before it counts again", y.at(0, 1), 0);
            y.undo();
            due("its walk counts again", y.at(0, 1), 1);
        });
        sentence("-2: there is no STATE; -5: there is none.", () -> {
            due(NO_STATE, nothing().undo(), -2);
            LeashedNames x = Check.of(TOWN);
            List<Long> before = look(x);
            due("none", x.undo(), -5);
            same("none", look(x), before);
            x.close(0, 1);
            due("one", x.undo(), 0);
            due("none is left", x.undo(), -5);
            x.close(0, 1);
            Check.tell(x, TOWN);
            due("none of a new state", x.undo(), -5);
            x.close(0, 1);
            x.state();
            due("no state any more", x.undo(), -2);
        });
        section("60");
        sentence("All are: how many there were.", () -> {
            for (int acts : new int[] {0, 1, 29, 30}) {
                LeashedNames x = afterActs(TOWN, acts);
                x.send(0, 0, 0);
                x.send(0, 0, 0);
                x.undo();
                due("anew", x.anew(), Math.min(acts + 2, 30) - 1);
                same("all taken back", look(x), look(Check.of(TOWN)));
                due("none is left", x.anew(), 0);
                due("none is left", x.undo(), -5);
            }
        });
        sentence("-2 likewise.", () -> {
            due(NO_STATE, nothing().anew(), -2);
            due("without acts", least().anew(), 0);
            LeashedNames x = least();
            x.state();
            due("no state any more", x.anew(), -2);
        });
    }

    // ---- 61 to 63, days drawn, and loops ----

    /** Whether the first draw from a seed is below the odds. */
    private static boolean isWet(long seed, int odds) {
        return (1103515245L * seed + 12345L) % (1L << 31) / 65536L % 10L < odds;
    }

    private void days() {
        section("61");
        sentence("DAY drawn (IX) from a seed (0 .. 2,000,000,000), what 0: STEPS from which it rains, as bits, 1: CONTRACTS signed "
                + "to the last STEP, as bits.", () -> {
            due("always", Check.of(wet(20, 10)).drawn(0, 0), (1 << 20) - 1);
            due("never", Check.of(wet(20, 0)).drawn(0, 0), 0);
            due("one step", Check.of(wet(1, 10)).drawn(0, 0), 1);
            due("from 0: seed 0 draws 0", Check.of(wet(1, 1)).drawn(0, 0), 1);
            due("nothing is signed", Check.of(wet(1, 1)).drawn(0, 1), 0);
            due("seed 1 draws 8", Check.of(wet(1, 8)).drawn(1, 1), 1);
            due("all six", alike(2, 9, many(6, "contract 0 1;")).drawn(0, 1), 63);
            due("at the last step", Check.of(ring(4, 0, 0)).drawn(0, 1), 15);
            due("a step less", Check.of(ring(3, 0, 0)).drawn(0, 1), 14);
        });
        sentence("-2: there are none such, no STATE.", () -> {
            bounds("seed", n -> ring().drawn(n, 0), 0, 2000000000, -2);
            bounds("seed", n -> least().drawn(n, 1), 0, 2000000000, -2);
            bounds("what", n -> ring().drawn(0, n), 0, 1, -2);
            due(NO_STATE, nothing().drawn(0, 0), -2);
        });
        section("62");
        sentence("Of n (1 .. 20) such from seeds, the seed and 1, .., in how many a CONTRACT is signed.", () -> {
            for (int seed : new int[] {0, 1, 7, 1999999981, 2000000000}) {
                int dry = 0;
                LeashedNames x = Check.of(wet(1, 5));
                for (int n = 1; n <= 20; n++) {
                    dry += isWet((long) seed + n - 1, 5) ? 0 : 1;
                    due("luck(" + seed + ", " + n + ", 0)", x.luck(seed, n, 0), dry);
                }
            }
            due("of the last contract", ring().luck(0, 20, 5) + Check.of(wet(20, 0) + "contract 1 0;").luck(0, 20, 1), 20);
            due("in all", Check.of(wet(20, 0)).luck(0, 20, 0), 20);
            due("in none", Check.of(wet(20, 10)).luck(0, 20, 0), 0);
        });
        sentence("-2: there are none such.", () -> {
            bounds("n", n -> ring().luck(0, n, 0), 1, 20, -2);
            bounds("seed", n -> ring().luck(n, 1, 0), 0, 2000000000, -2);
            contractBounds(n -> ring().luck(0, 1, n), n -> least().luck(0, 1, n));
            due(NO_STATE, nothing().luck(0, 1, 0), -2);
        });
        section("63");
        sentence("loops of a NAME are n (0 .. 59) from now on: what they were.", () -> {
            LeashedNames x = with(LINE, 0, 9, 5);
            due("nobody", x.sniffs(0), 0);
            due("12 before", x.rate(1, 59), 12);
            due("59 by 9 leaves 5", x.sniffs(0), 2);
            due("59 before", x.rate(1, 0), 59);
            due("0 before", x.rate(1, 0), 0);
            due("the others stay", x.name(0, 2), 7);
            due("no act", x.count(8), 0);
            Check.tell(x, LINE);
            due("as told again", x.name(1, 2), 12);
        });
        sentence("-2: there are none such; -5: there are acts that are not taken back.", () -> {
            nameBounds(n -> ring().rate(n, 0), n -> least().rate(n, 0));
            bounds("n", n -> ring().rate(4, n), 0, 59, -2);
            due(NO_STATE, nothing().rate(0, 0), -2);
            refusedAct(x -> x.rate(0, 60), -2, 0);
            refusedAct(x -> x.rate(0, -1), -2, 1);
            refusedAct(x -> x.rate(3, 0), -2, 0);
            refusedAct(x -> x.rate(0, 1), -5, 1);
            refusedAct(x -> x.rate(0, 1), -5, 30);
            LeashedNames x = afterActs(TOWN, 1);
            x.undo();
            due("taken back", x.rate(0, 1), 7);
            x.close(0, 1);
            due("one more", x.rate(0, 2), -5);
            x.anew();
            due("taken back", x.rate(0, 2), 1);
        });
    }

    // ---- 64 to 66, counts and images ----

    private void images() {
        section("64");
        sentence("0 corners, 1 steps, 2 LAW, 3 odds, 4 STREETS, 5 WELLS, 6 NAMES, 7 CONTRACTS, 8 acts, 9 LINES, 10 bytes of the TAPE, "
                + "11 SLOTS that have a row.", () -> {
            LeashedNames x = Check.of(ring(20, 3, 10));
            for (int i = 0; i < 30; i++) {
                x.send(0, 0, 0);
            }
            Check.tape(x, many(900, " "));
            for (int slot = 0; slot < 4; slot++) {
                x.row(slot, 0, 0);
            }
            int[] most = {8, 20, 3, 10, 12, 4, 5, 6, 30, 28, 900, 4};
            LeashedNames y = least();
            int[] fewest = {1, 1, 0, 0, 0, 0, 0, 0, 0, 1, 0, 0};
            for (int what = 0; what < 12; what++) {
                due("the most of " + what, x.count(what), most[what]);
                due("the fewest of " + what, y.count(what), fewest[what]);
                due("nothing of " + what, nothing().count(what), 0);
            }
        });
        sentence("NONE for others.", () -> {
            bounds("count", n -> ring().count(n), 0, 11, -1);
            bounds("count", n -> nothing().count(n), 0, 11, -1);
        });
        section("65");
        sentence("IMAGE k (0 .. 2) keeps the STATE, and acts: 0.", () -> {
            LeashedNames x = afterActs(TOWN, 5);
            due("image(0)", x.image(0), 0);
            x.anew();
            x.rate(0, 1);
            due("image(2)", x.image(2), 0);
            Check.tell(x, LINE);
            due("image(1)", x.image(1), 0);
            x.state();
            x.back(0);
            same("image 0", look(x), look(afterActs(TOWN, 5)));
            x.undo();
            x.back(2);
            same("image 2", look(x), look(Check.of(TOWN.replace("loops 7", "loops 1"))));
            x.back(1);
            same("image 1", look(x), look(Check.of(LINE)));
            LeashedNames again = Check.of(TOWN);
            again.image(0);
            Check.tell(again, LINE);
            due("in place of another", again.image(0), 0);
            Check.tell(again, LEAST);
            again.back(0);
            same("the later one", look(again), look(Check.of(LINE)));
            LeashedNames y = Check.of(TOWN);
            y.send(0, 0, 1);
            y.close(2, 1);
            y.image(0);
            List<Long> two = look(y);
            y.anew();
            y.close(0, 1);
            y.send(1, 4, 3);
            y.send(2, 0, 0);
            y.back(0);
            same("its own acts", look(y), two);
            due("its own last act", y.undo(), 1);
            due("its own first act", y.at(0, 2), 0);
            due("open again", y.street(2, 2), 0);
        });
        sentence("-2: no such k.", () -> {
            bounds("image", n -> Check.of(TOWN).image(n), 0, 2, -2);
            bounds("image", n -> nothing().image(n), 0, 2, -2);
            LeashedNames x = Check.of(TOWN);
            refused("image", x::image, 0, 2, -2);
            for (int k = 0; k < 3; k++) {
                due("nothing is kept", x.back(k), -6);
            }
        });
        section("66");
        sentence("It is as IMAGE k has it: 0.", () -> {
            LeashedNames x = nothing();
            x.image(0);
            Check.tell(x, TOWN);
            for (int i = 0; i < 30; i++) {
                x.close(i % 3, 1);
            }
            x.image(1);
            due("no state", x.back(0), 0);
            due("no state", x.pack(), -2);
            due("no acts", x.count(8), 0);
            due("30 acts", x.back(1), 0);
            due("30 acts", x.count(8), 30);
            due("a 31st", x.close(0, 0), -5);
            x.anew();
            Check.tell(x, "x");
            x.row(2, 0, 0);
            Check.tape(x, "=");
            due("once more", x.back(1), 0);
            due("30 acts", x.count(8), 30);
            due("rows stay", x.count(11), 1);
            due("the tape stays", x.count(10), 1);
            due("the fault stays", x.fault(0), 1);
        });
        sentence("-2: no such k; -6: it has nothing.", () -> {
            LeashedNames x = Check.of(TOWN);
            x.close(0, 1);
            List<Long> before = look(x);
            refused("back", x::back, 0, 2, -2);
            for (int k = 0; k < 3; k++) {
                due("back(" + k + ")", x.back(k), -6);
            }
            same("nothing happens", look(x), before);
            for (int k = 0; k < 3; k++) {
                x.image(k);
                for (int other = 0; other < 3; other++) {
                    due("back(" + other + ")", x.back(other), other <= k ? 0 : -6);
                }
            }
            bounds("back", x::back, 0, 2, -2);
        });
    }

    // ---- 67 to 69, rows ----

    /** What the row of a SLOT has, each number told by homes of LINE's name 1, which stays. */
    private static long[] numbers(LeashedNames x, int slot, int n) {
        long[] found = new long[n];
        for (int i = 0; i < n; i++) {
            x.row(3, 0, 2);
            x.paste(slot, i, 3, 1, 1);
            int homes = x.homes(3, 1);
            found[i] = homes < 0 ? homes : Integer.numberOfTrailingZeros(homes);
        }
        return found;
    }

    private void rowHas(LeashedNames x, int slot, long... want) {
        due("numbers of slot " + slot, java.util.Arrays.equals(numbers(x, slot, want.length), want) ? 0 : 1, 0);
        due("no more", x.write(slot, want.length, 0), -7);
    }

    private void rows() {
        section("67");
        sentence("A SLOT (0 .. 3) has a row of n numbers of a WIDTH, all 0 (in place of another one): 0.", () -> {
            for (int slot = 0; slot < 4; slot++) {
                for (int n : new int[] {0, 1, 59, 60}) {
                    LeashedNames x = Check.of(LINE);
                    due("row of " + n, x.row(slot, slot, n), 0);
                    due("the last number", x.write(slot, n - 1, 1), n == 0 ? -7 : 0);
                    due("one more", x.write(slot, n, 1), -7);
                    due("one slot", x.count(11), 1);
                }
            }
            LeashedNames x = Check.of(LINE);
            fill(x, 0, 0, 1, 2, 3, 1);
            rowHas(x, 0, 1, 2, 3, 1);
            due("in place of another", x.row(0, 0, 6), 0);
            rowHas(x, 0, 0, 0, 0, 0, 0, 0);
            due("fewer", x.row(0, 0, 1), 0);
            rowHas(x, 0, 0);
            due("none", x.row(0, 0, 0), 0);
            rowHas(x, 0);
            due("another width", x.row(0, 1, 2), 0);
            due("no longer of one width", x.paste(0, 0, 3, 0, 0), -8);
        });
        sentence("-2: there is no such SLOT or WIDTH (0 .. 3), or n is above 60; -3, and the SLOT stays: n is below 0.", () -> {
            LeashedNames x = Check.of(LINE);
            bounds("slot", n -> Check.of(LINE).row(n, 0, 1), 0, 3, -2);
            bounds("width", n -> Check.of(LINE).row(0, n, 1), 0, 3, -2);
            fill(x, 0, 0, 1, 2, 3);
            for (int n : new int[] {61, MAX}) {
                due("row of " + n, x.row(0, 0, n), -2);
            }
            for (int n : new int[] {-1, MIN}) {
                due("row of " + n, x.row(0, 0, n), -3);
                due("-2 ahead of it", x.row(4, 0, n), -2);
                due("-2 ahead of it", x.row(0, 4, n), -2);
                due("a slot with nothing", x.row(1, 0, n), -3);
            }
            due("width -1", x.row(0, -1, 1), -2);
            due("width 4", x.row(0, 4, 1), -2);
            due("slots that have a row", x.count(11), 1);
            due("it has nothing", x.write(1, 0, 0), -6);
            rowHas(x, 0, 1, 2, 3);
        });
        section("68");
        sentence("Number i of the SLOT's row is v, cut to its WIDTH: 0.", () -> {
            LeashedNames x = Check.of(LINE);
            fill(x, 0, 0, 0, 0, 0);
            due("the first", x.write(0, 0, 1), 0);
            rowHas(x, 0, 1, 0, 0);
            due("the last", x.write(0, 2, 3), 0);
            rowHas(x, 0, 1, 0, 3);
            due("cut", x.write(0, 1, 256 + 2), 0);
            due("cut", x.write(0, 2, Long.MIN_VALUE + 1), 0);
            rowHas(x, 0, 1, 2, 1);
            int[] bits = {8, 16, 32, 64};
            for (int width = 0; width < 4; width++) {
                for (int bit = 3; bit < 64; bit++) {
                    LeashedNames y = Check.of(LINE);
                    fill(y, 1, width, 0, 2 + (1L << bit));
                    due("width " + width + ", bit " + bit, y.homes(1, 1), bit < bits[width] ? -2 : 4);
                    fill(y, 1, width, 0, 2 - (1L << bit));
                    due("below 0, width " + width + ", bit " + bit, y.homes(1, 1), bit < bits[width] ? -2 : 4);
                }
            }
        });
        sentence("-2: there is no such SLOT; -6: it has nothing; -7: there is no such number.", () -> {
            LeashedNames x = Check.of(LINE);
            refused("slot with nothing", n -> x.write(n, 0, 1), 0, 3, -2);
            for (int slot = 0; slot < 4; slot++) {
                due("it has nothing", x.write(slot, 0, 1), -6);
                due("ahead of -7", x.write(slot, -1, 1), -6);
            }
            fill(x, 0, 0, 1, 2, 3);
            bounds("number", n -> x.write(0, n, n + 1), 0, 2, -7);
            due("-2 ahead of -7", x.write(4, 9, 1), -2);
            rowHas(x, 0, 1, 2, 3);
            due("slots that have a row", x.count(11), 2);
            LeashedNames full = Check.of(LINE);
            full.row(0, 3, 60);
            bounds("number", n -> full.write(0, n, 1), 0, 59, -7);
            full.row(0, 3, 0);
            refused("number of none", n -> full.write(0, n, 1), 1, 0, -7);
        });
        pasting();
    }

    private void pasting() {
        section("69");
        sentence("So many numbers of a SLOT's row, from one on, are put to another one's (or its own), from one on, as they were: 0.", () -> {
            LeashedNames x = Check.of(LINE);
            fill(x, 0, 0, 1, 2, 3);
            fill(x, 1, 0, 0, 0, 0, 0);
            due("all", x.paste(0, 0, 1, 1, 3), 0);
            rowHas(x, 1, 0, 1, 2, 3);
            rowHas(x, 0, 1, 2, 3);
            due("one", x.paste(0, 2, 1, 0, 1), 0);
            rowHas(x, 1, 3, 1, 2, 3);
            due("none", x.paste(0, 0, 1, 0, 0), 0);
            rowHas(x, 1, 3, 1, 2, 3);
            due("its own, ahead", x.paste(1, 0, 1, 1, 3), 0);
            rowHas(x, 1, 3, 3, 1, 2);
            due("its own, back", x.paste(1, 1, 1, 0, 3), 0);
            rowHas(x, 1, 3, 1, 2, 2);
            due("where they are", x.paste(1, 0, 1, 0, 4), 0);
            rowHas(x, 1, 3, 1, 2, 2);
            x.row(0, 2, 60);
            x.row(1, 2, 60);
            x.write(0, 59, 3);
            due("60", x.paste(0, 0, 1, 0, 60), 0);
            x.row(2, 2, 2);
            x.paste(1, 59, 2, 1, 1);
            due("the last of 60", x.homes(2, 1), 8);
        });
        sentence("-2: there is no such SLOT; -6: one has nothing; -8: they are not of one WIDTH; -7, and nothing happens: some are "
                + "beyond their rows (also where n is 0: a place above how many it has), or a place or n is below 0.", this::refusedPastes);
    }

    private void refusedPastes() {
        LeashedNames x = Check.of(LINE);
        fill(x, 0, 0, 1, 2, 3);
        fill(x, 1, 0, 3, 3);
        x.row(2, 1, 5);
        refused("from a slot", n -> x.paste(n, 0, 0, 0, 0), 0, 3, -2);
        refused("to a slot", n -> x.paste(0, 0, n, 0, 0), 0, 3, -2);
        due("-2 ahead of -6", x.paste(4, 0, 3, 0, 0), -2);
        due("-2 ahead of -6", x.paste(3, 0, 4, 0, 0), -2);
        due("-6 from", x.paste(3, 0, 0, 0, 0), -6);
        due("-6 to", x.paste(0, 0, 3, 0, 0), -6);
        due("-6 ahead of -8", x.paste(2, 0, 3, 0, 0), -6);
        due("-6 ahead of -7", x.paste(0, 9, 3, 9, 9), -6);
        due("-8", x.paste(0, 0, 2, 0, 0), -8);
        due("-8", x.paste(2, 0, 0, 0, 1), -8);
        due("-8 ahead of -7", x.paste(2, -1, 0, 9, 9), -8);
        bounds("place, none of them", n -> x.paste(0, n, 1, 0, 0), 0, 3, -7);
        bounds("place to, none of them", n -> x.paste(0, 0, 1, n, 0), 0, 2, -7);
        refused("place, one of them", n -> x.paste(0, n, 1, 0, 1), 0, 2, -7);
        refused("place to, one of them", n -> x.paste(0, 0, 1, n, 1), 0, 1, -7);
        refused("how many", n -> x.paste(0, 0, 1, 0, n), 0, 2, -7);
        refused("how many of its own", n -> x.paste(0, 1, 0, 0, n), 0, 2, -7);
        due("far out", x.paste(0, MAX, 1, MAX, MAX), -7);
        due("far out", x.paste(0, 2, 1, 1, MAX - 1), -7);
        due("far out", x.paste(0, MIN, 1, MIN, MIN), -7);
        rowHas(x, 0, 1, 2, 3);
        rowHas(x, 1, 3, 3);
        due("the last that fits", x.paste(0, 2, 1, 1, 1), 0);
        rowHas(x, 1, 3, 3);
        LeashedNames none = Check.of(LINE);
        none.row(0, 0, 0);
        bounds("place of none", n -> none.paste(0, n, 0, 0, 0), 0, 0, -7);
        due("one of none", none.paste(0, 0, 0, 0, 1), -7);
    }

    // ---- what holds of all calls ----

    /** Whatever is only asked leaves all as it is, what is asked next, too. */
    private void askedAlone() {
        check.begin("what is asked changes nothing");
        LeashedNames x = asked();
        List<Long> before = look(x);
        for (Done call : QUESTIONS) {
            call.to(x);
        }
        same("asked", look(x), before);
        for (int i = 0; i < QUESTIONS.length; i++) {
            int want = QUESTIONS[i].to(asked());
            for (int k = 0; k < QUESTIONS.length; k++) {
                LeashedNames y = asked();
                QUESTIONS[k].to(y);
                due("question " + i + " behind question " + k, QUESTIONS[i].to(y), want);
            }
        }
        check.finish();
    }

    private static final Done[] QUESTIONS = {x -> x.by(0), x -> x.by(1), x -> x.by(2), x -> x.by(3), x -> x.law(), x -> x.needs(0),
        x -> x.lives(1), x -> x.dig(), x -> x.shut(), x -> x.homes(0, 0), x -> x.ask(0, 0), x -> x.leaves(0, 1), x -> x.sniffs(1),
        x -> x.next(1), x -> x.worth(3), x -> x.share(0, 0), x -> x.rests(0, 1), x -> x.gets(0, 1, 1, 1), x -> x.gets(0, 1, 0, 0),
        x -> (int) x.chance(0, 2, 0), x -> (int) x.mean(2, 0), x -> x.drawn(7, 1), x -> x.luck(7, 20, 0), x -> x.cut(0, 1),
        x -> x.cuts(0, 1), x -> x.soon(0, 1), x -> x.gather(0), x -> x.hall(0), x -> x.way(0, 1), x -> x.reach(0)};

    /** One of two sleeps at the last corner, where a well would wake it. */
    private static LeashedNames asked() {
        LeashedNames x = Check.of("state corners 3 steps 3 law 2 odds 4;street 0 to 2;street 1 to 2;name at 0 ink 3 loops 7 walks 2;"
                + "name at 2 ink 0 loops 12;name at 2 ink 0 loops 5;name at 1 ink 9 loops 4 walks 1 walks 2;"
                + "contract 0 1;contract 1 2;contract 0 3;");
        x.send(0, 2, 1);
        x.close(1, 1);
        x.close(1, 0);
        fill(x, 0, 0, 2, 2);
        fill(x, 1, 0, 2, 0);
        return x;
    }

    /** The promises hold for 512 calls. */
    private void fullLength() {
        check.begin("the 512th call");
        LeashedNames x = nothing();
        int calls = 0;
        for (int i = 0; i < 511 - 47; i++) {
            x.send(0, 0, 0);
            calls++;
        }
        for (int i = 0; i < 45; i++) {
            x.feed(0x20202020, 0x20202020, 0x20202020, 0x20202020, 0x20202020);
            calls++;
        }
        x.end(0);
        x.image(2);
        calls += 2;
        due("calls ahead of it", calls, 511);
        due("the 512th", x.back(2), 0);
        check.finish();
    }
}
