import java.nio.charset.StandardCharsets;
import java.util.ArrayList;
import java.util.List;

/** Counts what holds and what is broken, and tells texts to a LeashedNames. */
final class Check {
    private final String suite;
    private final List<String> faults = new ArrayList<>();
    private String current = "";
    private int wrongInCurrent;
    private int callsInCurrent;
    private int held;
    private int broken;

    Check(String suite) {
        this.suite = suite;
    }

    void begin(String name) {
        current = name;
        wrongInCurrent = 0;
        callsInCurrent = 0;
    }

    void due(String call, long got, long want) {
        callsInCurrent++;
        if (got != want) {
            wrong(call + " answered " + got + ", due is " + want);
        }
    }

    void wrong(String what) {
        wrongInCurrent++;
        if (wrongInCurrent <= 5) {
            faults.add(current + ": " + what);
        }
    }

    /** A test without a single call proves nothing, so that it counts as broken. */
    void finish() {
        if (wrongInCurrent == 0 && callsInCurrent > 0) {
            held++;
        } else {
            broken++;
            System.out.println(suite + " " + current + " is broken (" + callsInCurrent + " calls)");
        }
    }

    /** The line that .ci/run adds up. */
    void close() {
        for (String fault : faults) {
            System.out.println(fault);
        }
        System.out.println(suite + " " + held + " " + broken);
        if (broken > 0) {
            System.exit(1);
        }
    }

    static byte[] bytesOf(String text) {
        return text.getBytes(StandardCharsets.ISO_8859_1);
    }

    /** Puts a text on an empty tape. */
    static int tape(LeashedNames x, String text) {
        byte[] bytes = bytesOf(text);
        for (int i = 0; i < bytes.length; i += 20) {
            x.feed(four(bytes, i), four(bytes, i + 4), four(bytes, i + 8), four(bytes, i + 12),
                    four(bytes, i + 16));
        }
        return x.end(bytes.length);
    }

    static int tell(LeashedNames x, String text) {
        x.end(0);
        tape(x, text);
        return x.state();
    }

    static LeashedNames of(String text) {
        LeashedNames x = new LeashedNames();
        tell(x, text);
        return x;
    }

    private static int four(byte[] bytes, int from) {
        int number = 0;
        for (int i = from; i < from + 4; i++) {
            number = number << 8 | (i < bytes.length ? bytes[i] & 255 : 0);
        }
        return number;
    }
}
