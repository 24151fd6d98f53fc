import java.nio.charset.StandardCharsets;
import java.util.Objects;

/** What the tests share: sending and reading texts, and counting the answers that are not as due. */
final class Kit {
    private int wrong;
    private String sentence = "";

    /** The document's words that the answers from here on are due to. */
    void sentence(String words) {
        sentence = "'" + words + "': ";
    }

    void due(String call, Object got, Object want) {
        if (!Objects.equals(got, want)) {
            wrong++;
            System.out.println(sentence + call + " answered " + shown(got) + ", due is " + shown(want));
        }
    }

    /** The whole text is taken on connection 2, which stays open; the status of the first answer, 0 for none yet. */
    void dueTaken(String text, int status) {
        EdgeCache x = new EdgeCache(0);
        due("bytes taken of " + shown(text), send(x, 2, text), text.length());
        due("open(2) after " + shown(text), x.open(2), true);
        String answer = read(x, 2);
        due("the status to " + shown(text), answer.isEmpty() ? 0 : Integer.parseInt(answer.substring(0, 3)), status);
    }

    /** The last byte of the text, and none before it, shuts connection 2 with the status. */
    void dueRefused(String text, int status) {
        EdgeCache x = new EdgeCache(0);
        due("bytes taken of " + shown(text), send(x, 2, text + "GET /\n\n"), text.length());
        due("open(2) after " + shown(text), x.open(2), false);
        due("the answer to " + shown(text), read(x, 2), bare(status));
        due("feed after " + shown(text), x.feed(2, 'G'), 0);
    }

    /** The two targets have the same path. */
    void duePath(String target, String same) {
        due("the answer for " + target + " when there is " + same, asked(target, same), "200\nE:1\nK:a\nL:0\n\n");
    }

    void dueOtherPath(String target, String other) {
        due("the answer for " + target + " when there is " + other, asked(target, other), bare(404));
    }

    private static String asked(String target, String present) {
        EdgeCache x = new EdgeCache(0);
        ask(x, 2, "PUT " + present + "\n\n");
        return ask(x, 2, "HEAD " + target + "\n\n");
    }

    void dueStore(EdgeCache x, String when, int stored, int bytes) {
        due("stored() " + when, x.stored(), stored);
        due("bytes() " + when, x.bytes(), bytes);
    }

    /** What upstream 0, upstream 1 and queue answer. */
    void dueJobs(EdgeCache x, String when, int first, int second, int queue) {
        due("upstream(0) " + when, x.upstream(0), first);
        due("upstream(1) " + when, x.upstream(1), second);
        due("queue() " + when, x.queue(), queue);
    }

    void end() {
        System.out.println(wrong == 0 ? "all answers are as due" : wrong + " answers are not as due");
        if (wrong != 0) {
            System.exit(1);
        }
    }

    private static String shown(Object value) {
        return value instanceof String text ? "'" + text.replace("\n", "|") + "'" : String.valueOf(value);
    }

    /** Feeds the text, eight bytes a call, up to the first byte that is not taken; answers how many were. */
    static int send(EdgeCache x, int c, String text) {
        byte[] all = text.getBytes(StandardCharsets.ISO_8859_1);
        int taken = 0;
        for (int from = 0; from < all.length; from += 8) {
            int to = Math.min(from + 8, all.length);
            long eight = 0;
            for (int i = from; i < to; i++) {
                eight = eight << 8 | all[i] & 255;
            }
            int now = x.feed(c, eight);
            taken += now;
            if (now < to - from) {
                break;
            }
        }
        return taken;
    }

    /** Takes the whole output of a connection. */
    static String read(EdgeCache x, int c) {
        StringBuilder text = new StringBuilder();
        while (x.pending(c) > 0) {
            int count = Math.min(8, x.pending(c));
            long number = x.out(c);
            for (int i = count - 1; i >= 0; i--) {
                text.append((char) (number >>> 8 * i & 255));
            }
        }
        return text.toString();
    }

    /** Sends a request and reads what is in the output then. */
    static String ask(EdgeCache x, int c, String request) {
        send(x, c, request);
        return read(x, c);
    }

    /** Sends a request to the cache that needs the origin, lets upstream 0 do it, and reads the answer. */
    static String fetch(EdgeCache x, int c, String request) {
        send(x, c, request);
        x.origin(0);
        x.arrive(0);
        return read(x, c);
    }

    /** A PUT with the letter, policy and body given. */
    static String put(String path, String letter, String policy, String body) {
        return "PUT " + path + "\nK:" + letter + "\nP:" + policy + "\nL:" + body.length() + "\n\n" + body;
    }

    /** An answer that has no representation. */
    static String bare(int status) {
        return status + "\nL:0\n\n";
    }
}
