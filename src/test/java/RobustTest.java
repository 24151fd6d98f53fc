import java.util.Random;

/** No call throws, whatever the arguments and however many the calls; and the sizes stay within the capacity. */
public final class RobustTest {
    private static final String[] PIECES = {"GET /", "PUT /", "HEAD /", "DELETE /", "a", "b", "\n", "\n\n", "K:b\n", "V:b2a\n",
        "P:s9999\n", "L:1\n", "L:8\n", "T:c\n", "R:0-,-9\n", "C:n\n", "M:*\n", "N:1,2\n", "%41", "%2f", "/..", "?", "0\n", "3\nabc\n",
        "\u00ff", "\u0001"};

    public static void main(String[] args) {
        Kit kit = new Kit();
        Random random = new Random(7);
        for (int run = 0; run < 200; run++) {
            int capacity = random.nextInt(400) - 50;
            EdgeCache x = new EdgeCache(capacity);
            for (int call = 0; call < 1500; call++) {
                anyCall(x, random);
                if (x.bytes() < 0 || x.bytes() > Math.max(0, Math.min(300, capacity))) {
                    kit.due("bytes() in run " + run + ", call " + call, x.bytes(), "within the capacity");
                }
            }
        }
        clockGoesRound(kit);
        kit.end();
    }

    private static void anyCall(EdgeCache x, Random random) {
        int any = random.nextInt(20) == 0 ? random.nextInt() : random.nextInt(3);
        switch (random.nextInt(12)) {
            case 0 -> x.feed(any, random.nextLong());
            case 1, 2, 3, 4, 5 -> Kit.send(x, random.nextInt(3), PIECES[random.nextInt(PIECES.length)]);
            case 6, 7 -> x.out(any);
            case 8 -> x.origin(any);
            case 9 -> x.arrive(any);
            case 10 -> x.pass(random.nextInt(4) * any);
            default -> x.upstream(any + x.pending(any) + x.waiting(any) + x.queue() + x.stored() + x.tag() + x.clock());
        }
    }

    private static void clockGoesRound(Kit kit) {
        EdgeCache x = new EdgeCache(300);
        Kit.ask(x, 2, Kit.put("/", "a", "s9999999", "12345678"));
        Kit.fetch(x, 0, "GET /\n\n");
        for (int i = 0; i < 3_000_000; i++) {
            x.pass(1000);
        }
        Kit.send(x, 0, "GET /\nR:0-,0-\n\n");
        kit.due("open(0) at the end", x.open(0), true);
    }
}
