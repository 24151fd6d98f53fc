/** Promises 12 and 13 (stored, bytes), and what the cache does with what it has stored. */
public final class StoreTest {
    private static final Kit KIT = new Kit();

    public static void main(String[] args) {
        sizes();
        freshness();
        requestControl();
        forbidden();
        variants();
        varyingChanges();
        gone();
        invalidation();
        spoiling();
        copies();
        leastUsed();
        times();
        KIT.end();
    }

    private static EdgeCache with(String policy, String body) {
        EdgeCache x = new EdgeCache(300);
        Kit.ask(x, 2, Kit.put("/", "a", policy, body));
        return x;
    }

    private static void sizes() {
        EdgeCache x = with("", "");
        Kit.fetch(x, 0, "HEAD /\nR:0-\n\n");
        KIT.dueStore(x, "of the least answer", 1, 17);
        x = with("s9", "12345678");
        Kit.fetch(x, 0, "GET /\nR:0-0\n\n");
        KIT.dueStore(x, "of a part", 1, 30);
        x = with("s9", "12345678");
        Kit.fetch(x, 0, "GET /\nM:7\n\n");
        KIT.dueStore(x, "of 412", 1, 30);
        for (int i = 2; i <= 10; i++) {
            Kit.ask(x, 2, Kit.put("/", "a", "s9", "" + i));
        }
        Kit.fetch(x, 0, "GET /\nC:n\n\n");
        KIT.dueStore(x, "of tag 10", 1, 25);
        Kit.ask(x, 2, Kit.put("/", "b", "s9", "x"));
        Kit.fetch(x, 0, "GET /\nC:n\n\n");
        KIT.dueStore(x, "that varies", 1, 29);
        for (int capacity = 29; capacity <= 30; capacity++) {
            EdgeCache y = new EdgeCache(capacity);
            Kit.ask(y, 2, Kit.put("/", "a", "s9", "12345678"));
            Kit.fetch(y, 0, "GET /\n\n");
            KIT.dueStore(y, "with capacity " + capacity, capacity - 29, 30 * (capacity - 29));
        }
    }

    /** Whether a response with the policy, stored at 0, answers after the seconds. */
    private static boolean answers(String policy, int seconds, String request) {
        EdgeCache x = with(policy, "x");
        Kit.fetch(x, 0, "GET /\n\n");
        x.pass(seconds);
        return !Kit.ask(x, 1, request).isEmpty();
    }

    private static void dueLife(String policy, int life) {
        if (life > 0) {
            KIT.due(policy + " before its end", answers(policy, life - 1, "GET /\n\n"), true);
        }
        KIT.due(policy + " at its end", answers(policy, life, "GET /\n\n"), false);
        KIT.due(policy + " after its end", answers(policy, life + 1, "GET /\n\n"), false);
    }

    private static void freshness() {
        String[] policies = {"", "s5", "m5", "s5m9", "m9s5", "sm7", "s", "m", "s0m9", "s5s", "s5sm3", "s3s8", "s 9", "s9 1", "S9",
            "m5,s10", "s007", "am4", "qs2q", "9", "9s", "9s3", "s3:", "s3/", "s12m5"};
        int[] lives = {0, 5, 5, 5, 5, 7, 0, 0, 0, 0, 3, 8, 0, 9, 0, 10, 7, 4, 2, 0, 0, 3, 3, 3, 12};
        for (int i = 0; i < policies.length; i++) {
            dueLife(policies[i], lives[i]);
        }
        KIT.due("n in the policy", answers("s99n", 0, "GET /\n\n"), false);
        KIT.due("n with a number in the policy", answers("n0s99", 0, "GET /\n\n"), false);
        KIT.due("N in the policy", answers("s99N", 0, "GET /\n\n"), true);
    }

    private static void requestControl() {
        String[] controls = {"n", "n5", "a4", "a5", "a", "a4a", "a4a9", "a9a4", "a0", "x", "A4", "s1", "", "p", "a 4", "a05", "0", "4a", "a10"};
        boolean[] used = {false, false, false, true, true, true, true, false, false, true, true, true, true, true, true, true, true, true, true};
        for (int i = 0; i < controls.length; i++) {
            KIT.due("C:" + controls[i], answers("s99", 5, "GET /\nC:" + controls[i] + "\n\n"), used[i]);
        }
        KIT.due("C:a0 at age 0", answers("s99", 0, "GET /\nC:a0\n\n"), true);
        KIT.due("the last C counts", answers("s99", 5, "GET /\nC:n\nC:\n\n"), true);
        KIT.due("another path", answers("s99", 5, "GET /?\n\n"), false);
        KIT.due("the same path", answers("s99", 5, "HEAD /./x/..\n\n"), true);
        KIT.due("another V when it does not vary", answers("s99", 5, "GET /\nV:b\n\n"), true);
    }

    private static void forbidden() {
        for (String policy : new String[] {"s9x", "p", "x1s9", "s9p0"}) {
            EdgeCache x = with(policy, "x");
            Kit.fetch(x, 0, "GET /\n\n");
            KIT.dueStore(x, "with policy " + policy, 0, 0);
        }
        EdgeCache x = with("s9", "x");
        Kit.fetch(x, 0, "GET /\nC:x\n\n");
        KIT.dueStore(x, "with C:x", 0, 0);
        Kit.fetch(x, 0, "GET /\nC:p\n\n");
        KIT.dueStore(x, "with C:p", 1, 23);
        x.pass(1);
        KIT.due("C:x may be answered from the store", Kit.ask(x, 0, "GET /\nC:x\n\n"), "200\nE:1\nK:a\nP:s9\nA:1\nL:1\n\nx");
        KIT.dueStore(x, "after that", 1, 23);
        Kit.fetch(x, 0, "GET /\nC:nx\n\n");
        KIT.dueStore(x, "when what comes in its place is not stored", 0, 0);
        Kit.fetch(x, 0, "GET /\n\n");
        Kit.ask(x, 2, Kit.put("/", "a", "s9p", "x"));
        Kit.fetch(x, 0, "GET /\nC:n\n\n");
        KIT.dueStore(x, "when the policy is p then", 0, 0);
        EdgeCache y = new EdgeCache(25);
        Kit.ask(y, 2, Kit.put("/", "a", "s9", "x"));
        Kit.fetch(y, 0, "GET /\n\n");
        KIT.dueStore(y, "that has room", 1, 23);
        Kit.ask(y, 2, Kit.put("/", "a", "s9", "xxxxxx"));
        Kit.fetch(y, 0, "GET /\nC:n\n\n");
        KIT.dueStore(y, "when it is too large", 0, 0);
    }

    private static EdgeCache twoLetters() {
        EdgeCache x = with("s99", "A");
        Kit.ask(x, 2, Kit.put("/", "b", "s99", "B"));
        return x;
    }

    private static void variants() {
        EdgeCache x = twoLetters();
        KIT.due("without V", Kit.fetch(x, 0, "GET /\n\n"), "200\nE:1\nK:a\nY:V\nP:s99\nL:1\n\nA");
        KIT.due("V:b", Kit.fetch(x, 0, "GET /\nV:b\n\n"), "200\nE:2\nK:b\nY:V\nP:s99\nL:1\n\nB");
        KIT.due("V:b1", Kit.fetch(x, 0, "GET /\nV:b1\n\n"), "200\nE:2\nK:b\nY:V\nP:s99\nL:1\n\nB");
        KIT.dueStore(x, "of three V", 3, 84);
        KIT.due("without V again", Kit.ask(x, 1, "GET /\n\n"), "200\nE:1\nK:a\nY:V\nP:s99\nA:0\nL:1\n\nA");
        KIT.due("V:b again", Kit.ask(x, 1, "GET /\nV:b\n\n"), "200\nE:2\nK:b\nY:V\nP:s99\nA:0\nL:1\n\nB");
        KIT.due("an empty V is not none", Kit.ask(x, 1, "GET /\nV:\n\n"), "");
        x.origin(0);
        KIT.due("arrive(0)", x.arrive(0), 406);
        KIT.dueStore(x, "after 406 for another V", 3, 84);
        Kit.fetch(x, 0, "GET /\nV:b\nC:n\n\n");
        KIT.dueStore(x, "after the same V", 3, 84);
    }

    private static void varyingChanges() {
        EdgeCache x = twoLetters();
        Kit.fetch(x, 0, "GET /\nV:a\n\n");
        Kit.fetch(x, 0, "GET /\nV:b\n\n");
        Kit.ask(x, 2, "DELETE /\n\n");
        Kit.ask(x, 2, Kit.put("/", "a", "s99", "A"));
        Kit.fetch(x, 0, "GET /\nV:c\n\n");
        KIT.dueStore(x, "when it does not vary any more", 1, 24);
        Kit.ask(x, 2, Kit.put("/", "b", "s99", "B"));
        Kit.fetch(x, 0, "GET /\nV:b\nC:n\n\n");
        KIT.dueStore(x, "when it varies again", 1, 28);
        Kit.ask(x, 2, "DELETE /\n\n");
        Kit.ask(x, 2, Kit.put("/", "a", "s99x", "A"));
        Kit.fetch(x, 0, "GET /\nV:zz\n\n");
        KIT.dueStore(x, "when it does not vary and is not stored", 0, 0);
    }

    private static void gone() {
        EdgeCache x = with("s99", "x");
        Kit.fetch(x, 0, "GET /\n\n");
        Kit.ask(x, 2, "DELETE /\n\n");
        KIT.dueStore(x, "after DELETE at the origin", 1, 24);
        Kit.send(x, 0, "GET /\nC:n\n\n");
        x.origin(0);
        KIT.dueStore(x, "before 404 arrives", 1, 24);
        x.arrive(0);
        KIT.dueStore(x, "after 404", 0, 0);
        EdgeCache y = twoLetters();
        Kit.fetch(y, 0, "GET /\nV:b\n\n");
        Kit.fetch(y, 0, "GET /\nV:a\n\n");
        Kit.ask(y, 2, "DELETE /\n\n");
        Kit.fetch(y, 0, "GET /\nV:b\nC:n\n\n");
        KIT.dueStore(y, "after 404 for one V", 1, 28);
        EdgeCache z = with("s99", "x");
        Kit.fetch(z, 0, "GET /\n\n");
        Kit.ask(z, 2, Kit.put("/", "b", "s99", "B"));
        Kit.fetch(z, 0, "GET /\nV:c\nC:n\n\n");
        KIT.dueStore(z, "after 406", 0, 0);
    }

    private static void invalidation() {
        String[] requests = {"PUT /\nL:1\n\ny", "PUT /\nK:c\n\n", "DELETE /\n\n", "PUT /\nM:9\n\n", "DELETE /\nN:*\n\n",
            "PUT /\nK:z\n\n", "DELETE /x\n\n", "PUT /x\n\n"};
        int[] left = {0, 0, 0, 2, 2, 2, 2, 2};
        for (int i = 0; i < requests.length; i++) {
            EdgeCache x = twoLetters();
            Kit.fetch(x, 0, "GET /\nV:a\n\n");
            Kit.fetch(x, 0, "GET /\nV:b\n\n");
            Kit.send(x, 1, requests[i]);
            x.origin(0);
            KIT.due("stored() before it arrives", x.stored(), 2);
            x.arrive(0);
            KIT.dueStore(x, "after " + requests[i].replace("\n", "|"), left[i], 28 * left[i]);
        }
    }

    private static void spoiling() {
        EdgeCache x = with("s99", "x");
        Kit.send(x, 0, "GET /\n\nPUT /\nL:1\n\ny");
        x.origin(1);
        x.arrive(1);
        KIT.due("a spoiled job still asks", x.origin(0), 200);
        x.arrive(0);
        KIT.dueStore(x, "after a spoiled job", 0, 0);
        KIT.due("its answer", Kit.read(x, 0), "200\nE:2\nK:a\nL:1\n\ny204\nE:2\nL:0\n\n");

        EdgeCache y = with("s99", "x");
        Kit.send(y, 0, "GET /\n\nPUT /\nM:9\n\nGET /\n\n");
        y.origin(1);
        y.arrive(1);
        y.origin(0);
        y.arrive(0);
        KIT.dueStore(y, "after a PUT that failed", 1, 24);

        EdgeCache z = with("s99", "x");
        Kit.send(z, 0, "PUT /y\n\nDELETE /\nM:1\n\nGET /\n\n");
        z.origin(0);
        z.origin(1);
        z.arrive(1);
        KIT.due("upstream(1)", z.upstream(1), 1);
        Kit.ask(z, 2, Kit.put("/", "a", "s99", "z"));
        z.origin(1);
        z.arrive(1);
        KIT.dueStore(z, "after a job that waited then", 1, 24);
        z.arrive(0);
        KIT.dueStore(z, "after a PUT of another path", 1, 24);
        spoiledGone();
        spoiledByEarlier();
    }

    private static void spoiledGone() {
        EdgeCache x = with("s99", "x");
        Kit.send(x, 0, "GET /\n\nPUT /\n\nGET /\n\n");
        x.origin(1);
        x.arrive(1);
        Kit.ask(x, 2, Kit.put("/", "a", "s99", "w"));
        x.origin(1);
        x.arrive(1);
        KIT.dueStore(x, "after a job behind the PUT", 1, 24);
        Kit.ask(x, 2, "DELETE /\n\n");
        x.origin(0);
        x.arrive(0);
        KIT.dueStore(x, "after 404 to a spoiled job", 0, 0);
    }

    private static void spoiledByEarlier() {
        EdgeCache x = with("s99", "x");
        Kit.fetch(x, 1, "GET /\n\n");
        Kit.send(x, 0, "GET /\nC:n\n\nPUT /\nP:s99\nL:1\n\nx");
        KIT.due("304 to a job", x.origin(0), 304);
        x.origin(1);
        x.arrive(1);
        KIT.due("304 to a spoiled job", x.arrive(0), 304);
        KIT.dueStore(x, "after it", 0, 0);
        KIT.due("the answers", Kit.read(x, 0), "200\nE:1\nK:a\nP:s99\nL:1\n\nx204\nE:1\nL:0\n\n");
    }

    private static void copies() {
        EdgeCache x = with("s5", "x");
        Kit.fetch(x, 0, "GET /\n\n");
        x.pass(5);
        Kit.send(x, 0, "GET /\n\n");
        Kit.ask(x, 2, Kit.put("/", "a", "s7", "x"));
        KIT.due("the same tag", x.origin(0), 304);
        Kit.ask(x, 2, Kit.put("/", "a", "s8", "y"));
        Kit.send(x, 1, "DELETE /q\n\nPUT /\nP:s8\nL:1\n\ny");
        x.pass(2);
        KIT.due("arrive(0)", x.arrive(0), 304);
        KIT.due("the policy when the origin responded", Kit.read(x, 0), "200\nE:1\nK:a\nP:s7\nL:1\n\nx");
        KIT.due("the time when it was sent", Kit.ask(x, 0, "GET /\n\n"), "200\nE:1\nK:a\nP:s7\nA:2\nL:1\n\nx");
        copyOutlivesStore();
        copyIsOfThen();
    }

    private static void copyOutlivesStore() {
        EdgeCache x = with("", "x");
        Kit.fetch(x, 0, "GET /\n\n");
        Kit.send(x, 0, "DELETE /a\n\nPUT /\nL:1\n\nx");
        Kit.send(x, 1, "GET /\n\n");
        x.origin(1);
        x.arrive(1);
        KIT.dueStore(x, "after the PUT", 0, 0);
        KIT.due("the copy is kept", x.origin(1), 304);
        x.arrive(1);
        KIT.due("the answer of the copy", Kit.read(x, 1), "200\nE:1\nK:a\nL:1\n\nx");
        KIT.dueStore(x, "after the copy", 1, 18);
    }

    private static void copyIsOfThen() {
        EdgeCache x = with("", "x");
        Kit.send(x, 0, "GET /\n\nGET /\n\n");
        x.origin(0);
        x.arrive(0);
        KIT.dueStore(x, "after the first of two", 1, 18);
        KIT.due("nothing was stored when the second came", x.origin(1), 200);
        x.arrive(1);
        KIT.dueStore(x, "after the second", 1, 18);
        Kit.read(x, 0);
        Kit.send(x, 0, "HEAD /\n\n");
        Kit.ask(x, 2, Kit.put("/", "b", "", "x"));
        KIT.due("a copy, when it varies now", x.origin(0), 304);
        x.arrive(0);
        KIT.due("it varies as the resource does", Kit.read(x, 0), "200\nE:1\nK:a\nY:V\nL:1\n\n");
        KIT.dueStore(x, "after that", 1, 22);
    }

    private static void leastUsed() {
        EdgeCache x = new EdgeCache(72);
        for (int i = 1; i <= 4; i++) {
            Kit.ask(x, 2, Kit.put("/" + i, "a", "s99", "x"));
        }
        for (int i = 1; i <= 3; i++) {
            Kit.fetch(x, 0, "GET /" + i + "\n\n");
        }
        KIT.dueStore(x, "when it is full", 3, 72);
        Kit.ask(x, 0, "HEAD /1\nM:9\n\n");
        Kit.fetch(x, 0, "GET /4\n\n");
        KIT.dueStore(x, "after one more", 3, 72);
        KIT.due("the one used longest ago went", Kit.ask(x, 1, "HEAD /2\n\n"), "");
        KIT.due("upstream(0)", x.upstream(0), 1);
        Kit.ask(x, 2, Kit.put("/2", "a", "s99", "12345678"));
        x.origin(0);
        x.arrive(0);
        KIT.due("two go for a larger one", x.stored() + " " + x.bytes(), "2 55");
        Kit.read(x, 1);
        KIT.due("the latest stays", Kit.ask(x, 1, "HEAD /4\n\n").isEmpty(), false);
        KIT.due("the others went", Kit.ask(x, 1, "HEAD /1\n\nHEAD /3\n\n"), "");
    }

    private static void times() {
        EdgeCache x = with("s9", "x");
        Kit.send(x, 1, "DELETE /a\n\nDELETE /b\n\n");
        x.pass(3);
        Kit.send(x, 0, "GET /\n\n");
        x.pass(4);
        x.origin(1);
        x.arrive(1);
        x.pass(5);
        KIT.due("origin(1)", x.origin(1), 200);
        x.pass(1);
        x.arrive(1);
        Kit.read(x, 0);
        KIT.due("the age counts from when it was sent", Kit.ask(x, 0, "GET /\n\n"), "200\nE:1\nK:a\nP:s9\nA:6\nL:1\n\nx");
        x.pass(2);
        KIT.due("still fresh", Kit.ask(x, 0, "HEAD /\n\n"), "200\nE:1\nK:a\nP:s9\nA:8\nL:1\n\n");
        x.pass(1);
        KIT.due("no more", Kit.ask(x, 0, "HEAD /\n\n"), "");
    }
}
