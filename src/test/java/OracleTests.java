import java.util.ArrayList;
import java.util.List;
import java.util.Random;
import java.util.TreeSet;

/** Many drawn states and acts: every call is compared with what Oracle says. */
public final class OracleTests {
    private static final int[] EXTREMES = {Integer.MIN_VALUE, -1, 32, 60, 64, 100, Integer.MAX_VALUE};

    private final Check check;
    private final Random random;
    private final LeashedNames x = new LeashedNames();
    private final Oracle o = new Oracle();

    private OracleTests(Check check, long seed) {
        this.check = check;
        this.random = new Random(seed);
    }

    public static void main(String[] args) {
        int states = args.length > 0 ? Integer.parseInt(args[0]) : 150;
        Check check = new Check("OracleTests");
        for (int seed = 1; seed <= states; seed++) {
            check.begin("drawn state " + seed);
            new OracleTests(check, seed).all();
            check.finish();
        }
        for (int seed = 1; seed <= 20; seed++) {
            check.begin("drawn texts " + seed);
            new OracleTests(check, seed).texts();
            check.finish();
        }
        for (int seed = 1; seed <= 6; seed++) {
            check.begin("largest state " + seed);
            new OracleTests(check, seed).largestStates();
            check.finish();
        }
        check.close();
    }

    private int draw(int below) {
        return random.nextInt(below);
    }

    private Oracle.World drawWorld() {
        Oracle.World w = new Oracle.World();
        w.there = true;
        w.corners = draw(4) == 0 ? 1 + draw(8) : 2 + draw(4);
        w.steps = 1 + draw(draw(3) == 0 ? 20 : 9);
        w.law = draw(4);
        w.odds = draw(5) == 0 ? draw(2) * 10 : draw(11);
        int streets = w.corners < 2 ? 0 : draw(13);
        for (int i = 0; i < streets; i++) {
            int a = draw(w.corners);
            int b = (a + 1 + draw(w.corners - 1)) % w.corners;
            w.streets.add(new int[] {a, b});
        }
        int wells = draw(5);
        for (int i = 0; i < wells; i++) {
            w.wells.add(new int[] {draw(w.corners), 1 + draw(draw(2) == 0 ? 20 : 3)});
        }
        int names = draw(12) == 0 ? draw(3) : 2 + draw(4);
        for (int i = 0; i < names; i++) {
            w.names.add(drawName(w));
        }
        int contracts = names < 2 ? 0 : draw(7);
        for (int i = 0; i < contracts; i++) {
            TreeSet<Integer> party = new TreeSet<>();
            int size = names < 3 ? 2 : 2 + draw(2);
            while (party.size() < size) {
                party.add(draw(names));
            }
            w.contracts.add(party);
        }
        return w;
    }

    /** As much of everything as a state can have, so that no row may be too short. */
    private Oracle.World largest() {
        Oracle.World w = new Oracle.World();
        w.there = true;
        w.corners = 8;
        w.steps = 20;
        w.law = draw(4);
        w.odds = 5;
        for (int i = 0; i < 12; i++) {
            int a = draw(8);
            w.streets.add(new int[] {a, (a + 1 + draw(7)) % 8});
        }
        for (int i = 0; i < 4; i++) {
            w.wells.add(new int[] {draw(8), 20});
        }
        for (int i = 0; i < 5; i++) {
            Oracle.Nm n = drawName(w);
            for (int k = n.walk.size(); k < 8; k++) {
                n.walk.add(draw(8));
            }
            n.ink = 40 - draw(3);
            w.names.add(n);
        }
        for (int i = 0; i < 6; i++) {
            w.contracts.add(new TreeSet<>(List.of(i % 5, (i + 1) % 5, (i + 2 + i / 5) % 5)));
        }
        return w;
    }

    private void largestStates() {
        tell(largest());
        check.due("lines", x.count(9), 28);
        for (int step = 0; step < 20; step += 5) {
            for (int seen = 0; seen < 8; seen++) {
                fillRow(0, step + 1, seen);
                check.due("homes", x.homes(0, 4), o.homes(0, 4));
            }
        }
        check.due("row", x.row(0, 3, 0), o.row(0, 3, 0));
        sweep();
        for (int i = 0; i < 31; i++) {
            check.due("send", x.send(i % 5, i % 8, 19 - i % 20), o.send(i % 5, i % 8, 19 - i % 20));
        }
        sweep();
    }

    private void fillRow(int slot, long first, long second) {
        check.due("row", x.row(slot, 3, 2), o.row(slot, 3, 2));
        check.due("write", x.write(slot, 0, first), o.write(slot, 0, first));
        check.due("write", x.write(slot, 1, second), o.write(slot, 1, second));
    }

    private Oracle.Nm drawName(Oracle.World w) {
        Oracle.Nm n = new Oracle.Nm();
        n.home = draw(w.corners);
        n.ink = draw(draw(2) == 0 ? 41 : 8);
        n.loops = draw(60);
        int walks = draw(5) == 0 ? 0 : 1 + draw(8);
        int here = n.home;
        for (int i = 0; i < walks; i++) {
            List<Integer> near = new ArrayList<>();
            for (int[] s : w.streets) {
                if (s[0] == here || s[1] == here) {
                    near.add(s[0] + s[1] - here);
                }
            }
            here = near.isEmpty() || draw(4) == 0 ? draw(w.corners) : near.get(draw(near.size()));
            n.walk.add(here);
        }
        return n;
    }

    /** Lines behind the first come in any order, but for names ahead of their contracts. */
    private String textOf(Oracle.World w) {
        List<String> lines = new ArrayList<>();
        for (int[] s : w.streets) {
            lines.add("street " + s[0] + " to " + s[1]);
        }
        int place = 0;
        for (int[] s : w.wells) {
            place = place + draw(lines.size() + 1 - place);
            lines.add(place++, "well " + s[0] + " feeds " + s[1]);
        }
        place = 0;
        for (Oracle.Nm n : w.names) {
            StringBuilder line = new StringBuilder("name at " + n.home + " ink " + n.ink + " loops " + n.loops);
            for (int c : n.walk) {
                line.append(" walks ").append(c);
            }
            place = place + draw(lines.size() + 1 - place);
            lines.add(place++, line.toString());
        }
        for (TreeSet<Integer> c : w.contracts) {
            List<Integer> party = new ArrayList<>(c);
            java.util.Collections.shuffle(party, random);
            StringBuilder line = new StringBuilder("contract");
            for (int p : party) {
                line.append(' ').append(p);
            }
            lines.add(line.toString());
        }
        StringBuilder text = new StringBuilder("state corners " + w.corners + " steps " + w.steps
                + " law " + w.law + " odds " + w.odds + ";");
        for (String line : lines) {
            text.append(line).append(';');
        }
        return text.toString();
    }

    private void tell(Oracle.World w) {
        String text = textOf(w);
        if (text.length() > 900) {
            return;
        }
        o.w = w.copy();
        o.settle();
        check.due("state()", Check.tell(x, text), w.lines());
    }

    private void all() {
        slots();
        sweep();
        for (int told = 0; told < 2; told++) {
            tell(drawWorld());
            sweep();
            for (int i = 0; i < 40; i++) {
                act();
                if (i % 8 == 0) {
                    sweep();
                }
            }
            sweep();
        }
        o.w = new Oracle.World();
        o.settle();
        check.due("state() of nothing", Check.tell(x, ""), 0);
        sweep();
    }

    private int numberNear(int bound) {
        return draw(12) == 0 ? EXTREMES[draw(EXTREMES.length)] : draw(bound + 1) - (draw(15) == 0 ? 1 : 0);
    }

    private void act() {
        int a = numberNear(5);
        int b = numberNear(8);
        int c = numberNear(draw(2) == 0 ? o.w.steps : 3);
        switch (draw(12)) {
            case 0:
            case 1:
            case 2:
            case 3:
                check.due("send(" + a + ", " + b + ", " + c + ")", x.send(a, b, c), o.send(a, b, c));
                break;
            case 4:
            case 5:
            case 6:
                check.due("close(" + b + ", " + a + ")", x.close(b, a & 1), o.close(b, a & 1));
                check.due("close(" + b + ", " + a + ")", x.close(b, a + 2), o.close(b, a + 2));
                break;
            case 7:
                check.due("undo()", x.undo(), o.undo());
                break;
            case 8:
                if (draw(4) == 0) {
                    check.due("anew()", x.anew(), o.anew());
                }
                check.due("rate(" + a + ", " + b * 6 + ")", x.rate(a, b * 6), o.rate(a, b * 6));
                break;
            case 9:
                check.due("image(" + (a - 1) + ")", x.image(a - 1), o.image(a - 1));
                break;
            case 10:
                if (draw(3) == 0) {
                    check.due("back(" + (a - 1) + ")", x.back(a - 1), o.back(a - 1));
                }
                break;
            default:
                slots();
                break;
        }
    }

    private void slots() {
        int a = numberNear(4);
        int b = numberNear(4);
        int n = draw(3) == 0 ? numberNear(61) : 2 * draw(4);
        check.due("row", x.row(a, b, n), o.row(a, b, n));
        for (int i = 0; i < n + 1 && i < 62; i++) {
            long v = draw(8) == 0 ? random.nextLong() : draw(9) + 256L * (draw(4) == 0 ? draw(300) : 0);
            check.due("write", x.write(a, i, v), o.write(a, i, v));
        }
        int c = numberNear(4);
        int i = numberNear(5);
        int k = numberNear(5);
        int m = numberNear(5);
        check.due("paste", x.paste(a, i, c, k, m), o.paste(a, i, c, k, m));
        for (int slot = -1; slot < 5; slot++) {
            check.due("write(-1)", x.write(slot, -1, 0), o.write(slot, -1, 0));
        }
    }

    /** Every number that a call may bear, one beyond on either side, and some far out. */
    private int[] numbers(int below) {
        int[] numbers = new int[below + 2 + EXTREMES.length];
        for (int i = 0; i < below + 2; i++) {
            numbers[i] = i - 1;
        }
        System.arraycopy(EXTREMES, 0, numbers, below + 2, EXTREMES.length);
        return numbers;
    }

    private void sweep() {
        nothingAsked();
        for (int a : numbers(12)) {
            check.due("count(" + a + ")", x.count(a), a == 10 ? 0 : o.count(a));
            check.due("well(" + a + ")", x.well(a), o.well(a));
            check.due("contract(" + a + ")", x.contract(a), o.contract(a));
            check.due("sleeps(" + a + ")", x.sleeps(a), o.sleeps(a));
            check.due("goes(" + a + ")", x.goes(a), o.goes(a));
            check.due("stuck(" + a + ")", x.stuck(a), o.stuck(a));
            check.due("sees(" + a + ")", x.sees(a), o.sees(a));
            check.due("drinks(" + a + ")", x.drinks(a), o.drinks(a));
            check.due("signed(" + a + ")", x.signed(a), o.signed(a));
            check.due("where(" + a + ")", x.where(a), o.where(a));
            check.due("deeds(" + a + ")", x.deeds(a), o.deeds(a));
            check.due("lies(" + a + ")", x.lies(a), o.lies(a));
            check.due("reach(" + a + ")", x.reach(a), o.reach(a));
            check.due("gather(" + a + ")", x.gather(a), o.gather(a));
            check.due("hall(" + a + ")", x.hall(a), o.hall(a));
            check.due("by(" + a + ")", x.by(a), o.by(a));
            check.due("needs(" + a + ")", x.needs(a), o.needs(a));
            check.due("lives(" + a + ")", x.lives(a), o.lives(a));
            check.due("sniffs(" + a + ")", x.sniffs(a), o.sniffs(a));
            check.due("next(" + a + ")", x.next(a), o.next(a));
        }
        for (int a : numbers(31)) {
            check.due("worth(" + a + ")", x.worth(a), o.worth(a));
            check.due("awake(" + a + ")", x.awake(a), o.awake(a));
            check.due("signs(" + a + ")", x.signs(a), o.signs(a));
            check.due("lone(" + a + ")", x.lone(a), o.lone(a));
            check.due("total(" + a + ")", x.total(a), o.total(a));
        }
        pairs();
        rain();
    }

    private void nothingAsked() {
        check.due("pack()", x.pack(), o.pack());
        check.due("busy()", x.busy(), o.busy());
        check.due("first()", x.first(), o.first());
        check.due("thirst()", x.thirst(), o.thirst());
        check.due("law()", x.law(), o.law());
        check.due("dig()", x.dig(), o.dig());
        check.due("shut()", x.shut(), o.shut());
    }

    private void pairs() {
        for (int a : numbers(8)) {
            for (int b : numbers(8)) {
                String ab = "(" + a + ", " + b + ")";
                check.due("street" + ab, x.street(a, b), o.street(a, b));
                check.due("name" + ab, x.name(a, b), o.name(a, b));
                check.due("walk" + ab, x.walk(a, b), o.walk(a, b));
                check.due("at" + ab, x.at(a, b), o.at(a, b));
                check.due("ink" + ab, x.ink(a, b), o.ink(a, b));
                check.due("here" + ab, x.here(a, b), o.here(a, b));
                check.due("meets" + ab, x.meets(a, b), o.meets(a, b));
                check.due("often" + ab, x.often(a, b), o.often(a, b));
                check.due("way" + ab, x.way(a, b), o.way(a, b));
                check.due("soon" + ab, x.soon(a, b), o.soon(a, b));
                check.due("homes" + ab, x.homes(a, b), o.homes(a, b));
                int[] asked = o.askBoth(a, b);
                check.due("ask" + ab, x.ask(a, b), asked[0]);
                check.due("leaves" + ab, x.leaves(a, b), asked[1]);
                check.due("share" + ab, x.share(a, b), o.share(a, b));
                check.due("rests" + ab, x.rests(a, b), o.rests(a, b));
                for (int c = -1; c < 3; c++) {
                    for (int d = -1; d < 3; d++) {
                        String abcd = "(" + a + ", " + b + ", " + c + ", " + d + ")";
                        check.due("gets" + abcd, x.gets(a, b, c, d), o.gets(a, b, c, d));
                    }
                }
            }
        }
        for (int a : numbers(5)) {
            for (int b : new int[] {a, draw(5), draw(3), numberNear(5)}) {
                int[] cut = o.cutBoth(a, b);
                check.due("cut(" + a + ", " + b + ")", x.cut(a, b), cut[0]);
                check.due("cuts(" + a + ", " + b + ")", x.cuts(a, b), cut[1]);
            }
        }
        for (int a : numbers(12)) {
            for (int b = -1; b < 4; b++) {
                check.due("street(" + a + ", " + b + ")", x.street(a, b), o.street(a, b));
            }
        }
        for (int a : numbers(5)) {
            for (int b : numbers(20)) {
                check.due("at(" + a + ", " + b + ")", x.at(a, b), o.at(a, b));
                check.due("ink(" + a + ", " + b + ")", x.ink(a, b), o.ink(a, b));
            }
        }
    }

    private void rain() {
        for (int what = -1; what < 3; what++) {
            for (int step : new int[] {-1, 0, 1, 2 + draw(8), 3, 20, Integer.MAX_VALUE}) {
                check.due("mean(" + step + ", " + what + ")", x.mean(step, what), o.mean(step, what));
                int c = numberNear(5);
                check.due("chance", x.chance(c, step, what), o.chance(c, step, what));
            }
            for (int seed : new int[] {-1, 0, 1, draw(2000000000), 2000000000, 2000000001}) {
                check.due("drawn(" + seed + ", " + what + ")", x.drawn(seed, what), o.drawn(seed, what));
                int c = numberNear(5);
                int n = numberNear(22);
                check.due("luck(" + seed + ", " + n + ", " + c + ")", x.luck(seed, n, c), o.luck(seed, n, c));
            }
        }
    }

    /** Good texts with a bit of them changed: the fault and its place. */
    private void texts() {
        String[] bits = {" ", "\n", ";", "a", "9", "0", "8", " 3", "state", "street 0 to 1;", "walks", "walks 1",
            "well 0 feeds 1;", "name at 0 ink 1 loops 1;", "contract 0 1;", "\t", "A", "\0", "\u00ff", "99999999999"};
        for (int i = 0; i < 400; i++) {
            String text = textOf(drawWorld());
            int changes = draw(3);
            for (int k = 0; k < changes; k++) {
                int from = draw(text.length() + 1);
                int to = Math.min(text.length(), from + draw(3) * draw(12));
                String bit = draw(3) == 0 ? "" : bits[draw(bits.length)];
                text = text.substring(0, from) + bit + text.substring(to);
            }
            if (text.length() > 900) {
                continue;
            }
            int[] fault = Oracle.faultOf(text);
            int lines = Check.tell(x, text);
            String shown = text.replace("\n", "\\n");
            check.due("state() of " + shown, lines == -4 ? 1 : 0, fault[0] == 0 ? 0 : 1);
            check.due("fault(0) of " + shown, x.fault(0), fault[0]);
            check.due("fault(1) of " + shown, x.fault(1), fault[1]);
            check.due("count(10)", x.count(10), 0);
        }
    }
}
