import java.nio.charset.StandardCharsets;
import java.util.Objects;

/** What the tests share: sending and reading texts, and counting the answers that are not as due. */
final class Kit {
    private int wrong;

    void due(String call, Object got, Object want) {
        if (!Objects.equals(got, want)) {
            wrong++;
            System.out.println(call + " answered " + shown(got) + ", due is " + shown(want));
        }
    }

    void end() {
        System.out.println(wrong == 0 ? "all answers are as due" : wrong + " answers are not as due");
        if (wrong != 0) {
            System.exit(1);
        }
    }

    private static String shown(Object value) {
        return value instanceof String text ? "'" + text.replace("\n", "|") + "'" : String.valueOf(value);
    }

    /** Feeds the text, eight bytes a call, up to the first byte that is not taken; answers how many were. */
    static int send(EdgeCache x, int c, String text) {
        byte[] all = text.getBytes(StandardCharsets.ISO_8859_1);
        int taken = 0;
        for (int from = 0; from < all.length; from += 8) {
            int to = Math.min(from + 8, all.length);
            long eight = 0;
            for (int i = from; i < to; i++) {
                eight = eight << 8 | all[i] & 255;
            }
            int now = x.feed(c, eight);
            taken += now;
            if (now < to - from) {
                break;
            }
        }
        return taken;
    }

    /** Takes the whole output of a connection. */
    static String read(EdgeCache x, int c) {
        StringBuilder text = new StringBuilder();
        while (x.pending(c) > 0) {
            int count = Math.min(8, x.pending(c));
            long number = x.out(c);
            for (int i = count - 1; i >= 0; i--) {
                text.append((char) (number >>> 8 * i & 255));
            }
        }
        return text.toString();
    }

    /** Sends a request and reads what is in the output then. */
    static String ask(EdgeCache x, int c, String request) {
        send(x, c, request);
        return read(x, c);
    }

    /** Sends a request to the cache that needs the origin, lets upstream 0 do it, and reads the answer. */
    static String fetch(EdgeCache x, int c, String request) {
        send(x, c, request);
        x.origin(0);
        x.arrive(0);
        return read(x, c);
    }

    /** A PUT with the letter, policy and body given. */
    static String put(String path, String letter, String policy, String body) {
        return "PUT " + path + "\nK:" + letter + "\nP:" + policy + "\nL:" + body.length() + "\n\n" + body;
    }

    /** An answer that has no representation. */
    static String bare(int status) {
        return status + "\nL:0\n\n";
    }
}
