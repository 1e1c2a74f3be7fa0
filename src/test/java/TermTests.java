import java.io.IOException;

/** The Terms sentence by sentence: each bound from inside and from outside, the empty and the full. */
public final class TermTests extends Cases {
    private static final String HEAD = "state corners 3 steps 2 law 0 odds 0;";
    private static final int BEHIND = HEAD.length();

    private TermTests(Check check) {
        super(check);
    }

    public static void main(String[] args) throws IOException {
        Check check = new Check("TermTests");
        TermTests tests = new TermTests(check);
        tests.read();
        tests.all();
        tests.allQuoted(true, 9);
        check.close();
    }

    private void all() {
        section("I");
        lines();
        numbersOfLines();
        howMany();
        tokens();
        faults();
        slots();
        section("II");
        steps();
        section("III");
        laws();
        section("IV");
        ways();
        section("V");
        seen();
        section("VI");
        sniffed();
        section("VII");
        worthOfSets();
        section("VIII");
        game();
        section("IX");
        rain();
        draws();
    }

    // ---- I, what a state is ----

    private void lines() {
        sentence("STATE: {LINE ;}.", () -> {
            noFaultIn("", 0);
            noFaultIn(LEAST, 1);
            noFaultIn(LEAST + "name at 0 ink 0 loops 0;", 2);
            noFaultIn(ring(20, 3, 10), 28);
            faultOf(LEAST + ";", 1, LEAST.length());
            faultOf(LEAST.substring(0, LEAST.length() - 1), 1, LEAST.length() - 1);
        });
        sentence("LINE: state corners N steps N law N odds N | street C to C | well C feeds N | "
                + "name at C ink N loops N {walks C} | contract P P [P].", () -> {
            for (String word : HEAD.replace(";", "").split(" ")) {
                faultOf(HEAD.replace(word, ""), 1, HEAD.indexOf(word) + 1);
            }
            noFaultIn(HEAD + "street 0 to 1;well 0 feeds 1;name at 0 ink 0 loops 0;name at 1 ink 0 loops 0 walks 1;"
                    + "contract 0 1;", 6);
            faultOf(HEAD + "street 0 to;", 1, BEHIND + 11);
            faultOf(HEAD + "street to 1;", 1, BEHIND + 7);
            faultOf(HEAD + "well 0 feeds;", 1, BEHIND + 12);
            faultOf(HEAD + "well 0 1;", 1, BEHIND + 7);
            faultOf(HEAD + "name 0 ink 0 loops 0;", 1, BEHIND + 5);
            faultOf(HEAD + "name at 0 loops 0 ink 0;", 1, BEHIND + 10);
            faultOf(HEAD + "name at 0 ink 0 loops 0 walks;", 1, BEHIND + 29);
            faultOf(HEAD + "name at 0 ink 0 loops 0 walks 1 1;", 1, BEHIND + 32);
            String names = HEAD + many(4, "name at 0 ink 0 loops 0;");
            noFaultIn(names + "contract 0 1;contract 0 1 2;", 7);
            faultOf(names + "contract 0;", 1, names.length() + 10);
            faultOf(names + "contract;", 1, names.length() + 8);
            faultOf(names + "contract 0 1 2 3;", 1, names.length() + 15);
        });
        sentence("state is the first LINE and no other:", () -> {
            noFaultIn(HEAD, 1);
            faultOf("street 0 to 1;" + HEAD, 1, 0);
            faultOf("name at 0 ink 0 loops 0;", 1, 0);
            faultOf(HEAD + HEAD, 1, BEHIND);
            faultOf(HEAD + "street 0 to 1;" + HEAD, 1, BEHIND + 14);
        });
    }

    private void numbersOfLines() {
        sentence("corners 1 .. 8,", () -> numberBounds("state corners % steps 1 law 0 odds 0;", 1, 8, 1));
        sentence("steps 1 .. 20,", () -> numberBounds("state corners 1 steps % law 0 odds 0;", 1, 20, 1));
        sentence("law 0 .. 3,", () -> numberBounds("state corners 1 steps 1 law % odds 0;", 0, 3, 1));
        sentence("odds 0 .. 10.", () -> numberBounds("state corners 1 steps 1 law 0 odds %;", 0, 10, 1));
        sentence("CORNERS 0 .. corners less 1.", () -> {
            String eight = told(8, 1, 0, "");
            numberBounds(HEAD + "street % to 1;", 0, 2, 2);
            numberBounds(HEAD + "street 1 to %;", 0, 2, 2);
            numberBounds(eight + "street % to 1;", 0, 7, 2);
            numberBounds(HEAD + "well % feeds 1;", 0, 2, 2);
            numberBounds(eight + "well % feeds 1;", 0, 7, 2);
            numberBounds(LEAST + "well % feeds 1;", 0, 0, 2);
            numberBounds(LEAST + "name at % ink 0 loops 0;", 0, 0, 2);
            numberBounds(HEAD + "name at 0 ink 0 loops 0 walks %;", 0, 2, 2);
            numberBounds(eight + "name at 0 ink 0 loops 0 walks %;", 0, 7, 2);
            bounds("well", n -> Check.of(HEAD).well(n), 0, 2, -2);
            bounds("well", n -> Check.of(LEAST).well(n), 0, 0, -2);
            bounds("well", n -> Check.of(eight).well(n), 0, 7, -2);
        });
        sentence("street: two unlike CORNERS, both ways.", () -> {
            for (int corner = 0; corner < 3; corner++) {
                faultOf(HEAD + "street " + corner + " to " + corner + ";", 2, BEHIND + 12);
            }
            faultOf(LEAST + "street 0 to 0;", 2, LEAST.length() + 12);
            String eight = told(8, 1, 0, "");
            for (int corner = 0; corner < 8; corner++) {
                faultOf(eight + "street " + corner + " to " + corner + ";", 2, eight.length() + 12);
            }
            LeashedNames x = Check.of(HEAD + "street 2 to 0;name at 0 ink 9 loops 0 walks 2 walks 0;");
            due("from the second to the first", x.at(0, 1), 2);
            due("from the first to the second", x.at(0, 2), 0);
            due("way(0, 2)", x.way(0, 2), 1);
            due("way(2, 0)", x.way(2, 0), 1);
            due("no other", x.way(0, 1), -1);
        });
        sentence("well: a CORNER, feeds 1 .. 20.", () -> numberBounds(HEAD + "well 0 feeds %;", 1, 20, 2));
        sentence("name: its CORNER,", () -> numberBounds(HEAD + "name at % ink 0 loops 0;", 0, 2, 2));
        sentence("ink 0 .. 40,", () -> numberBounds(HEAD + "name at 0 ink % loops 0;", 0, 40, 2));
        sentence("loops 0 .. 59,", () -> numberBounds(HEAD + "name at 0 ink 0 loops %;", 0, 59, 2));
        sentence("its WALK of 8 CORNERS at most.", () -> {
            String name = HEAD + "name at 0 ink 0 loops 0";
            for (int n = 0; n <= 8; n++) {
                noFaultIn(name + many(n, " walks 1") + ";", 2);
                due("length", Check.of(name + many(n, " walks 1") + ";").name(0, 3), n);
            }
            String eight = name + many(8, " walks 1");
            faultOf(eight + " walks 1;", 3, eight.length() + 1);
        });
        sentence("contract: unlike NAMES told ahead.", this::parties);
    }

    private void parties() {
        String two = HEAD + many(2, "name at 0 ink 0 loops 0;");
        int at = two.length();
        noFaultIn(two + "contract 0 1;", 4);
        noFaultIn(two + "contract 1 0;", 4);
        faultOf(two + "contract 0 0;", 2, at + 11);
        faultOf(two + "contract 1 1;", 2, at + 11);
        faultOf(two + "contract 2 0;", 2, at + 9);
        faultOf(two + "contract 0 2;", 2, at + 11);
        faultOf(two + "contract 0 2;name at 0 ink 0 loops 0;", 2, at + 11);
        faultOf(HEAD + "contract 0 1;" + many(2, "name at 0 ink 0 loops 0;"), 2, BEHIND + 9);
        faultOf(HEAD + "name at 0 ink 0 loops 0;contract 0 1;", 2, BEHIND + 35);
        String five = HEAD + many(5, "name at 0 ink 0 loops 0;");
        int behind = five.length();
        noFaultIn(five + "contract 0 1 4;contract 4 3 2;contract 2 4 0;", 9);
        faultOf(five + "contract 0 1 5;", 2, behind + 13);
        faultOf(five + "contract 4 3 4;", 2, behind + 13);
        faultOf(five + "contract 4 3 3;", 2, behind + 13);
        faultOf(five + "contract 4 0 8;", 2, behind + 13);
        faultOf(five + "contract 4 4294967296;", 2, behind + 11);
    }

    private void howMany() {
        sentence("STREETS 0 .. 11,", () -> {
            LeashedNames x = Check.of(ring(1, 0, 0));
            bounds("street", n -> x.street(n, 0), 0, 11, -2);
            due("as they stand", x.street(6, 0), 6);
            due("as they stand", x.street(11, 0), 7);
            refused("street without any", n -> Check.of(LEAST).street(n, 0), 1, 0, -2);
        });
        sentence("WELLS 0 .. 3,", () -> {
            due("none", Check.of(LEAST).count(5), 0);
            due("four", Check.of(ring(1, 0, 0)).count(5), 4);
            due("four at one corner", Check.of(ring(1, 0, 0)).well(7), 80);
        });
        sentence("NAMES 0 .. 4,", () -> {
            LeashedNames x = Check.of(ring(1, 0, 0));
            bounds("name", n -> x.name(n, 0), 0, 4, -2);
            due("as they stand", x.name(3, 0), 3);
            refused("name without any", n -> Check.of(LEAST).name(n, 0), 1, 0, -2);
        });
        sentence("CONTRACTS 0 .. 5 are numbered as they stand.", () -> {
            LeashedNames x = Check.of(ring(1, 0, 0));
            bounds("contract", x::contract, 0, 5, -2);
            int[] parties = {17, 18, 20, 24, 3, 19};
            for (int i = 0; i < 6; i++) {
                due("contract(" + i + ")", x.contract(i), parties[i]);
            }
            refused("contract without any", n -> Check.of(LEAST).contract(n), 1, 0, -2);
        });
        sentence("STEPS 0 .. steps.", () -> {
            for (int steps : new int[] {1, 2, 19, 20}) {
                LeashedNames x = Check.of(ring(steps, 0, 0));
                bounds("awake", x::awake, 0, steps, -2);
                bounds("at", n -> x.at(0, n), 0, steps, -2);
            }
        });
    }

    // ---- I, how a text is read ----

    private void tokens() {
        sentence("TOKENS, blanks (32, 10) aside, the longest:", () -> {
            noFaultIn(many(3, " \n") + LEAST.replace(" ", "\n \n") + "\n", 1);
            noFaultIn("state corners1steps1law0odds0;", 1);
            noFaultIn(many(900 - LEAST.length(), " ") + LEAST, 1);
            noFaultIn(LEAST + many(900 - LEAST.length(), "\n"), 1);
            faultOf("statecorners 1", 1, 0);
            faultOf("sta te", 1, 0);
            faultOf("state corners 1 0 steps", 1, 16);
            faultOf("state corners 10steps 1", 2, 14);
            for (char sign : new char[] {0, 9, 11, 12, 13, 31, 33, 127, 160, 255}) {
                faultOf(HEAD + sign, 1, BEHIND);
            }
        });
        sentence("words (a .. z), numbers (digits), the sign ; .", () -> {
            for (char sign = 0; sign < 256; sign++) {
                behindWord(sign);
                behindNumber(sign);
                atTheEnd(sign);
            }
        });
    }

    private void behindWord(char sign) {
        String text = HEAD + "street" + sign + "0 to 1;";
        if (sign == ' ' || sign == '\n' || sign == '0') {
            noFaultIn(text, 2);
        } else if (sign >= '1' && sign <= '9') {
            faultOf(text, 2, BEHIND + 6);
        } else {
            faultOf(text, 1, sign >= 'a' && sign <= 'z' ? BEHIND : BEHIND + 6);
        }
    }

    private void behindNumber(char sign) {
        String text = HEAD + "street 0" + sign + "to 1;";
        if (sign == ' ' || sign == '\n' || sign == '0' || sign == '2') {
            noFaultIn(text, 2);
        } else if (sign == '1') {
            faultOf(text, 2, BEHIND + 12);
        } else if (sign >= '3' && sign <= '9') {
            faultOf(text, 2, BEHIND + 7);
        } else {
            faultOf(text, 1, BEHIND + 8);
        }
    }

    private void atTheEnd(char sign) {
        String text = HEAD.replace(";", "") + sign;
        if (sign == ';') {
            noFaultIn(text, 1);
        } else {
            faultOf(text, 1, sign == ' ' || sign == '\n' || sign >= '0' && sign <= '9' ? BEHIND : BEHIND - 1);
        }
    }

    private void faults() {
        sentence("FAULTS, the first by its place (a TOKEN's first byte; the end's), of one place the least:", () -> {
            faultOf("state corners 9 corners 3", 2, 14);
            faultOf("state corners x steps 99", 1, 14);
            faultOf(HEAD + many(12, "street 0 to 1;") + "street 0 to 0;contract", 3, BEHIND + 12 * 14);
            faultOf(HEAD + "street 0 to 0;" + many(12, "street 0 to 1;"), 2, BEHIND + 12);
            faultOf("   stat", 1, 3);
            faultOf("\n\nstate corners   123", 2, 18);
            faultOf("s", 1, 0);
            faultOf("state", 1, 5);
            faultOf("state \n ", 1, 8);
            faultOf(many(895, " ") + "state", 1, 900);
            String full = HEAD + many(12, "street 0 to 1;");
            faultOf(full + "well street", 1, full.length() + 5);
            faultOf(full + "street 0 street", 3, full.length());
            faultOf(full + "0", 1, full.length());
            faultOf(full + "99", 1, full.length());
            faultOf(HEAD + "street 0 to 1 99;", 1, BEHIND + 14);
            faultOf(HEAD + "street 99 to 1 1;", 2, BEHIND + 7);
        });
        sentence("1 a TOKEN that is none, or can't stand there (state behind the first LINE, another word ahead of it).", () -> {
            faultOf("=", 1, 0);
            faultOf(":", 1, 0);
            faultOf("`", 1, 0);
            faultOf("{", 1, 0);
            faultOf("/", 1, 0);
            faultOf("\u00ff", 1, 0);
            faultOf(HEAD + "\0", 1, BEHIND);
            faultOf(HEAD + "state", 1, BEHIND);
            for (String word : new String[] {"street", "well", "name", "contract", "corners", "steps", "states", "law"}) {
                faultOf(word, 1, 0);
            }
            for (String word : new String[] {"corners", "steps", "law", "odds", "to", "feeds", "at", "ink", "loops", "walks", "x"}) {
                faultOf(HEAD + word, 1, BEHIND);
            }
            String all = HEAD + "street 0 to 1;well 0 feeds 1;name at 0 ink 0 loops 0 walks 1;";
            for (int i = 0; i < all.length(); i++) {
                if (all.charAt(i) >= 'a') {
                    String other = all.substring(0, i) + (all.charAt(i) == 'a' ? 'b' : 'a') + all.substring(i + 1);
                    faultOf(other, 1, Math.max(all.lastIndexOf(' ', i), all.lastIndexOf(';', i)) + 1);
                }
            }
            faultOf("0", 1, 0);
            faultOf(";", 1, 0);
        });
        sentence("2 a number out of its bounds, not as said.", () -> {
            faultOf("state corners 9", 2, 14);
            noFaultIn("state corners 8 steps 1 law 0 odds 0;", 1);
            faultOf(HEAD + "street 1 to 1;", 2, BEHIND + 12);
            faultOf(HEAD + "well 0 feeds 0;", 2, BEHIND + 13);
            faultOf("state corners " + many(400, "9"), 2, 14);
            noFaultIn("state corners " + many(400, "0") + "8 steps 1 law 0 odds 0;", 1);
        });
        sentence("3 a 13th street, 5th well, 6th name, 7th contract, at its word; a 9th walks of a name, at it.", () -> {
            oneTooMany(HEAD, "street 0 to 1;", 12);
            oneTooMany(HEAD, "well 0 feeds 1;", 4);
            oneTooMany(HEAD, "name at 0 ink 0 loops 0;", 5);
            oneTooMany(HEAD + many(2, "name at 0 ink 0 loops 0;"), "contract 0 1;", 6);
            String eight = HEAD + "name at 0 ink 0 loops 0" + many(8, " walks 1");
            noFaultIn(eight + ";", 2);
            noFaultIn(eight + ";name at 0 ink 0 loops 0" + many(8, " walks 1") + ";", 3);
            faultOf(eight + " walks", 3, eight.length() + 1);
            faultOf(eight + " walks 1 walks 1;", 3, eight.length() + 1);
            faultOf(eight + " walk", 1, eight.length() + 1);
        });
    }

    private void oneTooMany(String ahead, String line, int most) {
        String full = ahead + many(most, line);
        noFaultIn(full, full.split(";").length);
        faultOf(full + line, 3, full.length());
        faultOf(full + "  " + line.substring(0, line.indexOf(' ')), 3, full.length() + 2);
        faultOf(full + line.substring(0, line.indexOf(' ') - 1), 1, full.length());
    }

    private void slots() {
        sentence("SLOTS 0 .. 3 have rows of numbers of 1, 2, 4 or 8 bytes (WIDTH 0 .. 3), at most 60, or nothing.", () -> {
            LeashedNames x = Check.of(ring(1, 0, 0));
            for (int slot = 0; slot < 4; slot++) {
                due("nothing", x.sniffs(slot), -6);
            }
            bounds("slot", n -> x.row(n, 0, 2), 0, 3, -2);
            bounds("width", n -> x.row(0, n, 2), 0, 3, -2);
            due("60", x.row(0, 0, 60), 0);
            due("61", x.row(0, 0, 61), -2);
            due("a row of none is no nothing", x.row(3, 0, 0), 0);
            due("all names", x.sniffs(3), 31);
            cutTo(0, 8);
            cutTo(1, 16);
            cutTo(2, 32);
            cutTo(3, 64);
        });
        sentence("-2 is asked ahead of -5, -6.", () -> {
            LeashedNames x = Check.of(ring(2, 0, 0));
            for (int i = 0; i < 30; i++) {
                x.close(0, 0);
            }
            due("send", x.send(5, 0, 0), -2);
            due("send", x.send(0, 0, 0), -5);
            due("close", x.close(12, 0), -2);
            due("close", x.close(0, 0), -5);
            due("rate", x.rate(0, 60), -2);
            due("rate", x.rate(0, 59), -5);
            due("homes", x.homes(0, 5), -2);
            due("homes", x.homes(0, 0), -6);
            due("ask", x.ask(0, 5), -2);
            due("ask", x.ask(0, 0), -6);
            due("leaves", x.leaves(0, 5), -2);
            due("leaves", x.leaves(0, 0), -6);
            due("sniffs", x.sniffs(4), -2);
            due("sniffs", x.sniffs(0), -6);
            due("next", x.next(4), -2);
            due("next", x.next(0), -6);
            due("paste", x.paste(0, 0, 4, 0, 0), -2);
            due("paste", x.paste(4, 0, 0, 0, 0), -2);
            due("paste", x.paste(0, 0, 0, 0, 0), -6);
            due("no state: sniffs", nothing().sniffs(0), -2);
            due("no state: homes", nothing().homes(0, 0), -2);
            due("no state: undo", nothing().undo(), -2);
        });
    }

    /** Bits above the width are cut off, those below are not. */
    private void cutTo(int width, int bits) {
        LeashedNames x = Check.of(ring(1, 0, 0));
        for (int bit = 4; bit < 64; bit++) {
            fill(x, 0, width, 2 + (1L << bit), 1 - (1L << bit));
            due("width " + width + ", bit " + bit, x.sniffs(0), bit < bits ? -2 : 1 | 4 | 16);
        }
    }

    // ---- II, steps ----

    private void steps() {
        sentence("At STEP 0 each NAME is at its CORNER with its ink.", () -> {
            LeashedNames x = Check.of(told(8, 1, 0, "name at 7 ink 0 loops 0 walks 0;name at 0 ink 40 loops 0 walks 7;"));
            due("at(0, 0)", x.at(0, 0), 7);
            due("ink(0, 0)", x.ink(0, 0), 0);
            due("at(1, 0)", x.at(1, 0), 0);
            due("ink(1, 0)", x.ink(1, 0), 40);
        });
        sentence("From STEP n to the next a NAME that is awake (it has ink above 0 at the end of STEP n) goes to the CORNER "
                + "of its WALK at place n (counted on and on round it), if a STREET that is not closed joins it with that one;",
                this::walking);
        sentence("else it stays (also without a WALK).", () -> {
            LeashedNames x = Check.of(told(3, 3, 0, "street 0 to 1;name at 0 ink 9 loops 0;name at 0 ink 9 loops 0 walks 2;"
                    + "name at 0 ink 9 loops 0 walks 0;name at 0 ink 0 loops 0 walks 1;"));
            for (int name = 0; name < 4; name++) {
                due("name " + name + " stays", x.sees(name), 1);
            }
        });
        sentence("Its ink is 1 less then, if it is awake.", () -> {
            LeashedNames x = Check.of(told(3, 3, 0, "street 0 to 1;name at 0 ink 2 loops 0 walks 1;name at 0 ink 2 loops 0;"
                    + "name at 0 ink 2 loops 0 walks 2;name at 0 ink 0 loops 0 walks 1;"));
            int[] want = {2, 1, 0, 0};
            for (int step = 0; step <= 3; step++) {
                due("it goes", x.ink(0, step), want[step]);
                due("it stays", x.ink(1, step), want[step]);
                due("it is stuck", x.ink(2, step), want[step]);
                due("it sleeps", x.ink(3, step), 0);
            }
        });
        sentence("At each STEP (0, too) first it is fed by all WELLS at its CORNER (60 at most).", this::feeding);
        sentence("Then CONTRACTS are signed (III).", () -> {
            LeashedNames x = Check.of(told(2, 1, 0, "street 0 to 1;well 1 feeds 1;name at 0 ink 1 loops 0 walks 1;"
                    + "name at 1 ink 0 loops 0;contract 0 1;"));
            due("behind going and being fed", x.signed(0), 1);
            due("where it has come to", x.where(0), 1);
            due("ink(0, 1)", x.ink(0, 1), 0);
            LeashedNames y = Check.of(told(2, 1, 0, "street 0 to 1;name at 0 ink 1 loops 0 walks 1;"
                    + "name at 1 ink 9 loops 0;contract 0 1;"));
            due("its last ink went with the step", y.signed(0), -1);
        });
    }

    private void walking() {
        LeashedNames x = Check.of(ring(20, 0, 0));
        for (int step = 0; step <= 20; step++) {
            due("round a walk of 8, step " + step, x.at(3, step), (3 + step) % 8);
        }
        LeashedNames y = Check.of(told(2, 5, 0, "street 0 to 1;name at 0 ink 0 loops 0 walks 1;"
                + "name at 0 ink 1 loops 0 walks 1 walks 0;name at 0 ink 2 loops 0 walks 1 walks 0;"
                + "name at 0 ink 40 loops 0 walks 1;name at 0 ink 40 loops 0 walks 1 walks 1 walks 0;"));
        due("ink 0: it stays", y.sees(0), 1);
        due("ink 1: it goes once", y.at(1, 1), 1);
        due("ink 1: and no more", y.at(1, 2), 1);
        due("ink 2: it goes twice", y.at(2, 2), 0);
        due("a walk of 1", y.at(3, 5), 1);
        int[] third = {0, 1, 1, 0, 1, 1};
        for (int step = 0; step <= 5; step++) {
            due("a walk of 3, step " + step, y.at(4, step), third[step]);
        }
        LeashedNames z = Check.of(told(2, 2, 0, "street 0 to 1;name at 0 ink 1 loops 0 walks 1;name at 0 ink 1 loops 0;"
                + "contract 0 1;"));
        due("at the end of the step: it has signed", z.at(0, 1), 0);
        LeashedNames closed = Check.of(told(2, 4, 0, many(2, "street 0 to 1;") + "name at 0 ink 9 loops 0 walks 1;"));
        closed.close(0, 1);
        due("one of two closed", closed.at(0, 1), 1);
        closed.close(1, 1);
        due("both closed", closed.at(0, 4), 0);
        closed.close(0, 0);
        due("open again", closed.at(0, 1), 1);
    }

    private void feeding() {
        for (int more = 18; more <= 20; more++) {
            LeashedNames x = Check.of(told(1, 1, 0, "well 0 feeds " + more + ";name at 0 ink 40 loops 0;"));
            due("40 and " + more, x.ink(0, 0), 40 + more);
        }
        LeashedNames x = Check.of(told(1, 2, 0, "well 0 feeds 20;well 0 feeds 1;name at 0 ink 40 loops 0;name at 0 ink 39 loops 0;"
                + "name at 0 ink 38 loops 0;name at 0 ink 0 loops 0;"));
        due("61 is 60", x.ink(0, 0), 60);
        due("60", x.ink(1, 0), 60);
        due("59", x.ink(2, 0), 59);
        due("by all wells", x.ink(3, 0), 21);
        due("and at step 1", x.ink(3, 1), 41);
        due("and at step 2", x.ink(3, 2), 60);
        due("60 yet", x.ink(0, 2), 60);
        LeashedNames y = Check.of(told(2, 1, 0, "street 0 to 1;well 1 feeds 7;name at 0 ink 3 loops 0 walks 1;"
                + "name at 1 ink 3 loops 0 walks 0;"));
        due("not at another corner", y.ink(0, 0), 3);
        due("at the one that it comes to", y.ink(0, 1), 9);
        due("not at the one that it has left", y.ink(1, 1), 9);
    }

    // ---- III, laws ----

    private void laws() {
        sentence("A CONTRACT that is not signed is signed at a STEP, one behind the other by numbers, if all its NAMES are "
                + "at one CORNER and have ink above 0 then;", this::signing);
        sentence("each has 1 less ink by it.", () -> {
            LeashedNames x = Check.of(told(1, 1, 0, many(3, "name at 0 ink 7 loops 0;") + "contract 0 1;contract 0 1 2;"));
            due("two contracts", x.ink(0, 0), 5);
            due("two contracts", x.ink(1, 0), 5);
            due("one contract", x.ink(2, 0), 6);
            due("only once", x.ink(0, 1), 4);
        });
        sentence("LAW 0: so.", () -> due("all at once", signs(0, 9, 9, 9, "contract 0 1;contract 0 2;contract 1 2;"), 7));
        sentence("1: only if no other NAME with ink above 0 is at that CORNER.", () -> {
            due("another has ink 1", signs(1, 9, 9, 1, "contract 0 1;"), 0);
            due("another has ink 0", signs(1, 9, 9, 0, "contract 0 1;"), 1);
            due("none but its own", signs(1, 9, 9, 1, "contract 0 1 2;"), 1);
            due("its ink has gone by a contract", signs(1, 9, 9, 1, "contract 0 1 2;contract 0 1;"), 3);
            due("it has ink 1 yet", signs(1, 9, 9, 2, "contract 0 1 2;contract 0 1;"), 1);
            due("ahead of it, it has", signs(1, 9, 9, 1, "contract 0 1;contract 0 1 2;"), 2);
            due("at another corner", Check.of(told(2, 1, 1, many(2, "name at 0 ink 9 loops 0;")
                    + "name at 1 ink 9 loops 0;contract 0 1;")).signs(0), 1);
        });
        sentence("2: only if none has been signed at that CORNER at that STEP.", () -> {
            due("one of three", signs(2, 9, 9, 9, "contract 0 1;contract 0 2;contract 1 2;"), 1);
            String apart = many(2, "name at 0 ink 9 loops 0;") + many(2, "name at 1 ink 9 loops 0;") + "contract 0 1;contract 2 3;";
            due("at another corner", Check.of(told(2, 1, 2, apart)).signs(0), 3);
            String other = many(4, "name at 1 ink 9 loops 0;") + "contract 0 1;contract 2 3;";
            due("by other names", Check.of(told(2, 1, 2, other)).signs(0), 1);
            due("at the next step", Check.of(told(2, 1, 2, other)).signs(1), 3);
            due("the first could not be", signs(2, 9, 0, 9, "contract 0 1;contract 0 2;"), 2);
        });
        sentence("3: only if none of its NAMES has signed at that STEP.", () -> {
            due("one of three", signs(3, 9, 9, 9, "contract 0 1;contract 0 2;contract 1 2;"), 1);
            String other = many(4, "name at 0 ink 9 loops 0;") + "contract 0 1;contract 2 3;contract 1 2;";
            due("by other names", Check.of(told(1, 2, 3, other)).signs(0), 3);
            due("at the next step", Check.of(told(1, 2, 3, other)).signs(1), 7);
            due("the first could not be", signs(3, 9, 0, 9, "contract 0 1;contract 0 2;"), 2);
        });
    }

    /** What three names at one corner with so much ink sign at STEP 0. */
    private static int signs(int law, int first, int second, int third, String contracts) {
        return Check.of(told(1, 1, law, "name at 0 ink " + first + " loops 0;name at 0 ink " + second
                + " loops 0;name at 0 ink " + third + " loops 0;" + contracts)).signs(0);
    }

    private void signing() {
        due("ink 1 each", signs(0, 1, 1, 1, "contract 0 1 2;"), 1);
        due("one has none", signs(0, 1, 1, 0, "contract 0 1 2;"), 0);
        due("the first has none", signs(0, 0, 1, 1, "contract 0 1;contract 1 2;"), 2);
        due("the first spends it", signs(0, 1, 1, 1, "contract 0 1;contract 0 2;contract 1 2;"), 1);
        due("ink 2", signs(0, 2, 1, 1, "contract 0 1;contract 0 2;contract 1 2;"), 3);
        LeashedNames x = Check.of(told(2, 1, 0, many(2, "name at 0 ink 9 loops 0;") + "name at 1 ink 9 loops 0;"
                + "contract 0 1 2;contract 0 1;contract 1 2;"));
        due("one is elsewhere", x.signs(1), 2);
        LeashedNames y = Check.of(told(1, 5, 0, many(2, "name at 0 ink 9 loops 0;") + "contract 0 1;"));
        due("signed but once", y.ink(0, 5), 3);
    }

    // ---- IV to VI ----

    private void ways() {
        sentence("A WAY: from one CORNER by a STREET to the next, so many STREETS long (ink aside; closed ones are none).", () -> {
            LeashedNames x = Check.of(told(3, 1, 0, "street 0 to 1;street 1 to 2;street 2 to 1;name at 0 ink 0 loops 0;"
                    + "name at 2 ink 0 loops 0;"));
            due("two streets", x.way(0, 2), 2);
            due("without ink", x.soon(0, 1), 1);
            x.close(1, 1);
            due("the other one is open", x.way(0, 2), 2);
            x.close(2, 1);
            due("closed", x.way(0, 2), -1);
            due("closed", x.reach(2), 4);
            due("closed", x.soon(0, 1), -1);
            due("apart", x.cut(0, 1), 0);
        });
    }

    private void seen() {
        sentence("SEEN: a SLOT's row, two numbers each: a STEP, a CORNER where a NAME was then: CORNERS where it can live "
                + "(others as told).", () -> {
            String text = ring(20, 0, 0);
            due("step 0, corner 7", with(text, 0, 0, 7).homes(0, 0), 128);
            due("the last step, corner 0", with(text, 0, 20, 0).homes(0, 4), 1);
            due("a step more", with(text, 0, 21, 0).homes(0, 0), -2);
            due("a corner more", with(text, 0, 20, 8).homes(0, 0), -2);
            due("one number", with(text, 0, 0).homes(0, 0), -2);
            due("three numbers", with(text, 0, 0, 7, 0).homes(0, 0), -2);
            LeashedNames x = with(told(2, 1, 0, "street 0 to 1;name at 1 ink 9 loops 0;name at 1 ink 9 loops 0 walks 0;"), 0, 1, 1);
            due("others as told", x.homes(0, 0), 2);
            due("it goes away", x.homes(0, 1), 0);
        });
    }

    private void sniffed() {
        sentence("SNIFFS: a SLOT's row, two numbers each: how many are counted at a time (2 .. 9), what is left over of the "
                + "loops by that: NAMES of which it is so.", () -> {
            String text = told(1, 1, 0, "name at 0 ink 0 loops 0;name at 0 ink 0 loops 59;name at 0 ink 0 loops 8;");
            LeashedNames x = Check.of(text);
            bounds("by", n -> {
                fill(x, 0, 3, n, 0);
                return x.sniffs(0);
            }, 2, 9, -2);
            due("59 by 2 leaves 1", with(text, 0, 2, 1).sniffs(0), 2);
            due("59 by 9 leaves 5", with(text, 0, 9, 5).sniffs(0), 2);
            due("8 by 9 leaves 8", with(text, 0, 9, 8).sniffs(0), 4);
            due("0 and 8 by 8 leave 0", with(text, 0, 8, 0).sniffs(0), 5);
            due("2 by 2 is never left", with(text, 0, 2, 2).sniffs(0), 0);
            due("one number", with(text, 0, 2).sniffs(0), -2);
            due("three numbers", with(text, 0, 2, 0, 2).sniffs(0), -2);
        });
    }

    // ---- VII and VIII ----

    private void worthOfSets() {
        sentence("A set of NAMES is worth as many CONTRACTS as there are among them.", () -> {
            LeashedNames x = Check.of(ring(1, 0, 0));
            due("none", x.worth(0), 0);
            due("one name", x.worth(16), 0);
            due("two names", x.worth(17), 1);
            due("three names", x.worth(19), 4);
            due("all names", x.worth(31), 6);
        });
        sentence("NAMES come in an order, each has what the set is worth more by it; each order is as likely: the mean.", () -> {
            LeashedNames x = Check.of(ring(1, 0, 0));
            long[][] want = {{4, 3}, {4, 3}, {1, 2}, {1, 2}, {7, 3}};
            for (int name = 0; name < 5; name++) {
                due("above of " + name, x.share(name, 0), want[name][0]);
                due("below of " + name, x.share(name, 1), want[name][1]);
            }
            LeashedNames alone = Check.of(told(1, 1, 0, "name at 0 ink 0 loops 0;"));
            due("one name alone", alone.share(0, 0), 0);
            due("one name alone", alone.share(0, 1), 1);
        });
    }

    private void game() {
        sentence("Each of two NAMES stays where it lives, or walks as now.", () -> {
            LeashedNames x = Check.of(ring(20, 0, 0));
            due("walks", x.gets(0, 4, 0, 0), 5 - 20);
            due("stays, and name 1 comes by at step 7", x.gets(0, 4, 1, 0), 5);
            due("the other one stays: contracts 0, 4 and 5 are signed no more", x.gets(4, 0, 0, 1), 15);
            x.send(0, 0, 0);
            due("as now: sent to 0 from 0, it goes from step 6 on", x.gets(0, 4, 0, 0), 5 - 14);
            x.send(0, 1, 0);
            due("stays, though sent", x.gets(0, 4, 1, 0), 5);
        });
        sentence("It GETS 5 for each of its CONTRACTS that is signed to the last STEP, less 1 for each STREET along which it goes.", () -> {
            due("none, 20 streets", Check.of(ring(20, 0, 0).replace("contract 0 4;", "contract 2 4;")).gets(0, 1, 0, 0), -20);
            due("at the last step", Check.of(ring(4, 0, 0)).gets(0, 1, 0, 0), 1);
            due("a step too few", Check.of(ring(3, 0, 0)).gets(0, 1, 0, 0), -3);
            due("four", Check.of(ring(20, 0, 0)).gets(4, 0, 0, 0), 20);
            String six = told(1, 1, 0, many(2, "name at 0 ink 9 loops 0;") + many(6, "contract 0 1;"));
            due("six and no street", Check.of(six).gets(0, 1, 0, 0), 30);
        });
        sentence("REST: neither GETS more by the other choice alone.", () -> {
            LeashedNames same = Check.of(told(1, 1, 0, many(2, "name at 0 ink 9 loops 0;")));
            due("as much is not more: all four", same.rests(0, 1), 15);
            LeashedNames x = Check.of(told(2, 1, 0, "street 0 to 1;name at 0 ink 9 loops 0 walks 1;name at 0 ink 9 loops 0;"));
            due("1 more: the first stays", x.rests(0, 1), 2 | 8);
            due("told the other way round", x.rests(1, 0), 4 | 8);
        });
    }

    // ---- IX ----

    private void rain() {
        sentence("RAIN: from each STEP to the next with odds in ten, by itself: nobody goes along a STREET (ink is less as else).", () -> {
            for (int odds = 0; odds <= 10; odds++) {
                LeashedNames x = Check.of(wet(2, odds));
                due("once", 10 * x.chance(0, 0, 0), (10 - odds) * x.chance(0, 0, 1));
                due("twice by itself", 100 * x.chance(0, 1, 0), (100 - odds * odds) * x.chance(0, 1, 1));
            }
            LeashedNames x = Check.of(wet(8, 5).replace("at 0 ink 40", "at 0 ink 2"));
            due("ink 2: it must not rain from step 0", x.chance(0, 7, 0), 1);
            due("below", x.chance(0, 7, 1), 2);
            LeashedNames y = Check.of(told(2, 2, 0, "").replace("odds 0", "odds 10") + "street 0 to 1;"
                    + "name at 0 ink 9 loops 0 walks 1;name at 0 ink 9 loops 0;name at 1 ink 9 loops 0 walks 0;contract 1 2;");
            due("nobody goes", y.drawn(0, 1), 0);
            due("dry, one comes", Check.of(told(2, 2, 0, "street 0 to 1;name at 0 ink 9 loops 0;"
                    + "name at 1 ink 9 loops 0 walks 0;contract 0 1;")).drawn(0, 1), 1);
        });
        sentence("FRACTIONS are told in lowest terms (0 / 1).", () -> {
            due("10 / 10", Check.of(wet(1, 0)).chance(0, 0, 0), 1);
            due("10 / 10", Check.of(wet(1, 0)).chance(0, 0, 1), 1);
            due("0 / 10", Check.of(wet(1, 10)).chance(0, 0, 0), 0);
            due("0 / 10", Check.of(wet(1, 10)).chance(0, 0, 1), 1);
            due("6 / 10", Check.of(wet(1, 4)).chance(0, 0, 0), 3);
            due("6 / 10", Check.of(wet(1, 4)).chance(0, 0, 1), 5);
            due("7 / 10", Check.of(wet(1, 3)).chance(0, 0, 0), 7);
            due("7 / 10", Check.of(wet(1, 3)).chance(0, 0, 1), 10);
            due("no contract", Check.of(LEAST).mean(0, 0), 0);
            due("no contract", Check.of(LEAST).mean(0, 1), 1);
            String two = told(1, 1, 0, many(2, "name at 0 ink 9 loops 0;") + many(2, "contract 0 1;"));
            due("2 / 1", Check.of(two).mean(0, 0), 2);
            due("2 / 1", Check.of(two).mean(0, 1), 1);
            due("2 halves", Check.of(two).share(0, 0), 1);
            due("2 halves", Check.of(two).share(0, 1), 1);
        });
    }

    private void draws() {
        int[] fromOne = {8, 8, 3, 5, 1, 7, 0, 9, 2, 6, 9, 7, 4, 0, 5, 3, 9, 3, 7, 6};
        int[] fromLargest = {4, 3, 1, 7, 6, 2, 7, 7, 5, 4, 7, 0, 4, 8, 1, 3, 5, 7, 9, 1};
        int[] fromZero = {0, 8, 8, 7, 8, 7, 5, 1, 2, 0, 1, 2, 9, 8, 7, 5, 8, 3, 2, 1};
        sentence("DRAWS: x becomes (1103515245 x + 12345) modulo 2,147,483,648 (at first it is the seed); a draw: x / 65536, "
                + "cut, modulo 10.", () -> {
            for (int odds = 0; odds <= 10; odds++) {
                LeashedNames x = Check.of(wet(20, odds));
                due("seed 0, below " + odds, x.drawn(0, 0), below(odds, fromZero, 20));
                due("seed 1, below " + odds, x.drawn(1, 0), below(odds, fromOne, 20));
                due("the largest seed, below " + odds, x.drawn(2000000000, 0), below(odds, fromLargest, 20));
            }
        });
        sentence("DAY drawn: STEP by STEP ahead of the last a draw: below odds it rains from it to the next.", () -> {
            for (int steps = 1; steps <= 20; steps++) {
                due(steps + " steps", Check.of(wet(steps, 8)).drawn(1, 0), below(8, fromOne, steps));
            }
            due("3 is not below 3", Check.of(wet(3, 3)).drawn(1, 0), 0);
            due("3 is below 4", Check.of(wet(3, 4)).drawn(1, 0), 4);
            due("0 is not below 0", Check.of(wet(1, 0)).drawn(0, 0), 0);
            due("0 is below 1", Check.of(wet(1, 1)).drawn(0, 0), 1);
            due("9 is below 10", Check.of(wet(8, 10)).drawn(1, 0), 255);
            due("9 is not below 9", Check.of(wet(8, 9)).drawn(1, 0), 127);
        });
    }

    private static int below(int odds, int[] draws, int steps) {
        int bits = 0;
        for (int step = 0; step < steps; step++) {
            bits |= draws[step] < odds ? 1 << step : 0;
        }
        return bits;
    }
}
