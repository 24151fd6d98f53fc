/** 'THE CACHE', what is stored and when it answers: each sentence that names a boundary, on both sides of it. */
public final class CacheEdgesTest {
    private static final Kit KIT = new Kit();

    public static void main(String[] args) {
        samePath();
        notVarying();
        sameV();
        age();
        numberOfS();
        numberOfM();
        neitherNumber();
        size();
        neverMoreThanTheCapacity();
        noCacheInThePolicy();
        noCacheInTheRequest();
        greatestAge();
        selectedWithAge();
        latestUsed();
        askedIsNotUsed();
        fittingOnesGo();
        otherVaryingGoes();
        notStoredByThePolicy();
        notStoredByTheRequest();
        tooLarge();
        roomEnough();
        latestUsedWhenStored();
        timeOfTheJob();
        variantOfTheRequest();
        KIT.end();
    }

    /** An object whose origin has / with the policy and the body x. */
    private static EdgeCache with(int capacity, String policy) {
        EdgeCache x = new EdgeCache(capacity);
        Kit.ask(x, 2, Kit.put("/", "a", policy, "x"));
        return x;
    }

    /** As with(300, "s99"), but with the letters a and b. */
    private static EdgeCache varying() {
        EdgeCache x = with(300, "s99");
        Kit.ask(x, 2, Kit.put("/", "b", "s99", "x"));
        return x;
    }

    /** Resources /1 .. /count whose responses have 24 bytes each. */
    private static EdgeCache withPaths(int capacity, int count) {
        EdgeCache x = new EdgeCache(capacity);
        for (int i = 1; i <= count; i++) {
            Kit.ask(x, 2, Kit.put("/" + i, "a", "s99", "x"));
        }
        return x;
    }

    private static void fetchPaths(EdgeCache x, String digits) {
        for (int i = 0; i < digits.length(); i++) {
            Kit.fetch(x, 0, "GET /" + digits.charAt(i) + "\n\n");
        }
    }

    /** These paths of one digit are stored, and no others. */
    private static void dueStoredPaths(EdgeCache x, String when, String digits) {
        KIT.due("stored() " + when, x.stored(), digits.length());
        for (int i = 0; i < digits.length(); i++) {
            KIT.due("/" + digits.charAt(i) + " answers " + when, answers(x, "HEAD /" + digits.charAt(i) + "\n\n"), true);
        }
    }

    /** Whether the store answers the request at once; connection 1 must not wait for anything. */
    private static boolean answers(EdgeCache x, String request) {
        return !Kit.ask(x, 1, request).isEmpty();
    }

    /** Whether a response to the first request, stored seconds ago, answers the second. */
    private static void dueAnswer(EdgeCache x, String first, int seconds, String second, boolean want) {
        Kit.fetch(x, 0, first);
        x.pass(seconds);
        KIT.due("an answer from the store to '" + second.replace("\n", "|") + "', " + seconds + " seconds after '"
                + first.replace("\n", "|") + "'", answers(x, second), want);
    }

    private static void samePath() {
        KIT.sentence("One FITS a GET or HEAD request when the path is the same");
        for (String same : new String[] {"/a", "/./a", "/x/../a", "/%61"}) {
            EdgeCache x = new EdgeCache(300);
            Kit.ask(x, 2, "PUT /a\nP:s9\n\n");
            dueAnswer(x, "GET /a\n\n", 0, "GET " + same + "\n\n", true);
            KIT.due("HEAD " + same, answers(x, "HEAD " + same + "\n\n"), true);
        }
        for (String other : new String[] {"/", "/A", "/a?", "/a/", "//a", "/aa"}) {
            EdgeCache x = new EdgeCache(300);
            Kit.ask(x, 2, "PUT /a\nP:s9\n\n");
            dueAnswer(x, "GET /a\n\n", 0, "GET " + other + "\n\n", false);
        }
    }

    private static void notVarying() {
        KIT.sentence("and it does not vary or the V is the same");
        String[] values = {"", "V:\n", "V:b\n", "V:a\n", "V:a0\n"};
        for (String first : values) {
            for (String second : values) {
                dueAnswer(with(300, "s99"), "GET /\n" + first + "\n", 0, "HEAD /\n" + second + "\n", true);
            }
        }
    }

    private static void sameV() {
        KIT.sentence("the V is the same (the same text, or none in both)");
        String[] values = {"", "V:a\n", "V:a9\n", "V:a \n", "V:b\n", "V:b,a1\n"};
        for (String first : values) {
            for (String second : values) {
                dueAnswer(varying(), "GET /\n" + first + "\n", 0, "HEAD /\n" + second + "\n", first.equals(second));
            }
            dueAnswer(varying(), "GET /\n" + first + "\n", 0, "HEAD /\nV:\n\n", false);
        }
    }

    private static void age() {
        KIT.sentence("Its AGE is the clock less its time.");
        for (int seconds : new int[] {0, 1, 9, 10, 999, 1000}) {
            EdgeCache x = with(300, "s9999");
            x.pass(7);
            Kit.fetch(x, 0, "GET /\n\n");
            x.pass(seconds);
            KIT.due("after " + seconds, Kit.ask(x, 0, "HEAD /\n\n"), "200\nE:1\nK:a\nP:s9999\nA:" + seconds + "\nL:1\n\n");
        }
    }

    private static void dueLife(String policy, int life) {
        if (life > 0) {
            dueAnswer(with(300, policy), "GET /\n\n", life - 1, "GET /\n\n", true);
        }
        dueAnswer(with(300, policy), "GET /\n\n", life, "GET /\n\n", false);
    }

    private static void numberOfS() {
        KIT.sentence("It is FRESH when its age is less than the number of s in its policy");
        dueLife("s0", 0);
        dueLife("s1", 1);
        dueLife("s5", 5);
        dueLife("s999", 999);
        dueLife("s5m9", 5);
        dueLife("m9s5", 5);
        dueLife("m5s9", 9);
        dueLife("s0m9", 0);
    }

    private static void numberOfM() {
        KIT.sentence("not count or its number is MISSING, of m");
        dueLife("m1", 1);
        dueLife("m5", 5);
        dueLife("sm5", 5);
        dueLife("m5s", 5);
        dueLife("s9sm5", 5);
        dueLife("S9m5", 5);
        dueLife("m0", 0);
    }

    private static void neitherNumber() {
        KIT.sentence("or if that is so too, 0");
        for (String policy : new String[] {"", "m", "s", "sm", "ms", "m9m", "s ", "5", "a9", "M9"}) {
            dueLife(policy, 0);
        }
    }

    private static void dueSize(String policy, String body, String request, int want) {
        for (int capacity = want - 1; capacity <= want; capacity++) {
            EdgeCache x = new EdgeCache(capacity);
            Kit.ask(x, 2, Kit.put("/", "a", policy, body));
            Kit.fetch(x, 0, request);
            boolean fits = capacity == want;
            KIT.dueStore(x, "with capacity " + capacity + " after '" + request.replace("\n", "|") + "'", fits ? 1 : 0, fits ? want : 0);
        }
    }

    private static void size() {
        KIT.sentence("Its SIZE: the bytes of the 200 answer to a GET with all of it, without A.");
        dueSize("", "", "GET /\n\n", 17);
        dueSize("", "12345678", "GET /\n\n", 25);
        dueSize("s", "", "GET /\n\n", 21);
        dueSize("s1234567", "12345678", "GET /\n\n", 36);
        for (String lines : new String[] {"R:0-0\n", "R:0-,0-\n", "R:9-\n", "N:1\n", "M:9\n"}) {
            dueSize("s9", "12345678", "GET /\n" + lines + "\n", 30);
            dueSize("s9", "12345678", "HEAD /\n" + lines + "\n", 30);
        }
        EdgeCache x = varying();
        Kit.fetch(x, 0, "GET /\n\n");
        KIT.dueStore(x, "that varies", 1, 28);
        x.pass(50);
        Kit.ask(x, 0, "GET /\n\n");
        KIT.dueStore(x, "with an age", 1, 28);
        for (int tag = 3; tag <= 10; tag++) {
            Kit.ask(x, 2, Kit.put("/", "a", "s99", "" + (char) ('a' + tag)));
            Kit.fetch(x, 0, "GET /\nC:n\n\n");
            KIT.dueStore(x, "with tag " + tag, 1, tag == 10 ? 29 : 28);
        }
    }

    private static void neverMoreThanTheCapacity() {
        KIT.sentence("The sizes stored are never more than the capacity.");
        for (int capacity : new int[] {0, 23, 24, 25, 47, 48, 71, 72, 120, 300}) {
            EdgeCache x = withPaths(capacity, 6);
            fetchPaths(x, "123456");
            int count = Math.min(6, capacity / 24);
            KIT.dueStore(x, "with capacity " + capacity, count, 24 * count);
        }
    }

    private static void noCacheInThePolicy() {
        KIT.sentence("n does not count in its policy");
        dueAnswer(with(300, "s99"), "GET /\n\n", 0, "GET /\n\n", true);
        for (String policy : new String[] {"s99n", "ns99", "n0s99", "s99,n1"}) {
            dueAnswer(with(300, policy), "GET /\n\n", 0, "GET /\n\n", false);
        }
        dueAnswer(with(300, "s99N"), "GET /\n\n", 0, "GET /\n\n", true);
        EdgeCache x = with(300, "s99n");
        Kit.fetch(x, 0, "GET /\n\n");
        KIT.dueStore(x, "with n in the policy", 1, 25);
    }

    private static void noCacheInTheRequest() {
        KIT.sentence("n does not count in the request's C");
        for (String control : new String[] {"n", "n0", "a9n", "n,a9", " n"}) {
            dueAnswer(with(300, "s99"), "GET /\n\n", 0, "GET /\nC:" + control + "\n\n", false);
        }
        for (String control : new String[] {"", "N", "x", "p", "s0", "m0", "0"}) {
            dueAnswer(with(300, "s99"), "GET /\n\n", 0, "GET /\nC:" + control + "\n\n", true);
        }
        EdgeCache x = with(300, "s99");
        Kit.fetch(x, 0, "GET /\nC:n\n\n");
        KIT.dueStore(x, "after a request with C:n", 1, 24);
    }

    private static void greatestAge() {
        KIT.sentence("the number of a in C (if there is one; MISSING is none) is not less than the age");
        String[] controls = {"a4", "a5", "a6", "a0", "a", "a4a", "aa4", "a04", "a005", "a45", "a 4", "A4", "a9999999"};
        boolean[] answers = {false, true, true, false, true, true, false, false, true, true, true, true, true};
        for (int i = 0; i < controls.length; i++) {
            dueAnswer(with(300, "s99"), "GET /\n\n", 5, "GET /\nC:" + controls[i] + "\n\n", answers[i]);
        }
        dueAnswer(with(300, "s99"), "GET /\n\n", 0, "GET /\nC:a0\n\n", true);
        dueAnswer(with(300, "s99"), "GET /\n\n", 1, "GET /\nC:a0\n\n", false);
        dueAnswer(with(300, "s5"), "GET /\n\n", 5, "GET /\nC:a9\n\n", false);
    }

    private static void selectedWithAge() {
        KIT.sentence("the answer is what selecting answers (412, 416, too), with A in 200, 206 and 304");
        EdgeCache x = with(300, "s99");
        KIT.due("without A when it arrives", Kit.fetch(x, 0, "GET /\n\n"), "200\nE:1\nK:a\nP:s99\nL:1\n\nx");
        x.pass(3);
        KIT.due("200", Kit.ask(x, 0, "GET /\n\n"), "200\nE:1\nK:a\nP:s99\nA:3\nL:1\n\nx");
        KIT.due("HEAD", Kit.ask(x, 0, "HEAD /\n\n"), "200\nE:1\nK:a\nP:s99\nA:3\nL:1\n\n");
        KIT.due("206", Kit.ask(x, 0, "GET /\nR:0-\n\n"), "206\nE:1\nK:a\nP:s99\nA:3\nR:0-0/1\nL:1\n\nx");
        KIT.due("304", Kit.ask(x, 0, "GET /\nN:1\n\n"), "304\nE:1\nK:a\nP:s99\nA:3\n\n");
        KIT.due("412", Kit.ask(x, 0, "GET /\nM:2\n\n"), Kit.bare(412));
        KIT.due("416", Kit.ask(x, 0, "GET /\nR:1-\n\n"), "416\nR:*/1\nL:0\n\n");
        KIT.dueJobs(x, "after them", 0, 0, 0);
    }

    private static void latestUsed() {
        KIT.sentence("and it is the latest USED");
        for (String use : new String[] {"GET /1\n\n", "HEAD /1\n\n", "GET /1\nR:0-\n\n", "GET /1\nN:*\n\n", "GET /1\nM:9\n\n", "GET /1\nR:9-\n\n"}) {
            EdgeCache x = withPaths(72, 4);
            fetchPaths(x, "123");
            Kit.ask(x, 1, use);
            fetchPaths(x, "4");
            dueStoredPaths(x, "after '" + use.replace("\n", "|") + "'", "134");
        }
        EdgeCache x = withPaths(72, 4);
        fetchPaths(x, "123");
        fetchPaths(x, "4");
        dueStoredPaths(x, "when none was used", "234");
    }

    private static void askedIsNotUsed() {
        KIT.sentence("Otherwise there is a JOB that ASKS for the path and V");
        EdgeCache x = withPaths(72, 4);
        fetchPaths(x, "123");
        Kit.send(x, 0, "HEAD /1\nC:n\n\n");
        KIT.dueJobs(x, "after C:n", 1, 0, 0);
        x.pass(10);
        Kit.read(x, 0);
        fetchPaths(x, "4");
        dueStoredPaths(x, "when /1 was asked for, not used", "234");
    }

    private static void fittingOnesGo() {
        KIT.sentence("all stored with that path that fit the request");
        EdgeCache x = varying();
        Kit.fetch(x, 0, "GET /\n\n");
        Kit.fetch(x, 0, "GET /\nV:a\n\n");
        KIT.dueStore(x, "with another V", 2, 56);
        Kit.ask(x, 2, Kit.put("/", "a", "s99", "12345678"));
        Kit.fetch(x, 0, "GET /\nV:a\nC:n\n\n");
        KIT.dueStore(x, "with the same V", 2, 63);
        Kit.fetch(x, 0, "GET /\nC:n\n\n");
        KIT.dueStore(x, "with none in both", 2, 70);
        Kit.ask(x, 2, Kit.put("/y", "a", "s99", "x"));
        Kit.fetch(x, 0, "GET /y\nV:a\n\n");
        KIT.dueStore(x, "with another path", 3, 94);
    }

    private static void otherVaryingGoes() {
        KIT.sentence("or that vary when this does not or the other way round, go (also if it isn't stored then)");
        for (String policy : new String[] {"s99", "s99x"}) {
            int kept = policy.equals("s99") ? 1 : 0;
            EdgeCache x = varying();
            Kit.fetch(x, 0, "GET /\nV:a\n\n");
            Kit.fetch(x, 0, "GET /\nV:b\n\n");
            Kit.ask(x, 2, "DELETE /\n\n" + Kit.put("/", "a", policy, "x"));
            Kit.fetch(x, 0, "GET /\nV:c\n\n");
            KIT.dueStore(x, "when it does not vary any more, with " + policy, kept, 24 * kept);

            EdgeCache y = with(300, "s99");
            Kit.fetch(y, 0, "GET /\nV:a\n\n");
            Kit.ask(y, 2, Kit.put("/", "b", policy, "x"));
            Kit.fetch(y, 0, "GET /\nV:b\nC:n\n\n");
            KIT.dueStore(y, "when it varies now, with " + policy, kept, 28 * kept);

            EdgeCache z = varying();
            Kit.fetch(z, 0, "GET /\nV:a\n\n");
            Kit.ask(z, 2, Kit.put("/", "b", policy, "x"));
            Kit.fetch(z, 0, "GET /\nV:b\n\n");
            KIT.dueStore(z, "when both vary, with " + policy, 1 + kept, 28 + 28 * kept);
        }
        EdgeCache x = varying();
        Kit.ask(x, 2, Kit.put("/y", "a", "s99", "x"));
        Kit.fetch(x, 0, "GET /\n\n");
        Kit.fetch(x, 0, "GET /y\n\n");
        KIT.dueStore(x, "of two paths, one varying", 2, 52);
    }

    private static void notStoredByThePolicy() {
        KIT.sentence("then it is stored, unless x or p counts in its policy");
        for (String policy : new String[] {"x", "p", "s99x", "s99p", "x1", "p0s99", "xp"}) {
            EdgeCache x = with(300, policy);
            Kit.fetch(x, 0, "GET /\n\n");
            KIT.dueStore(x, "with " + policy, 0, 0);
        }
        for (String policy : new String[] {"", "X", "P", "s99XP", "n", "s0"}) {
            EdgeCache x = with(300, policy);
            Kit.fetch(x, 0, "GET /\n\n");
            KIT.dueStore(x, "with '" + policy + "'", 1, policy.isEmpty() ? 18 : 21 + policy.length());
        }
        EdgeCache x = with(300, "s99");
        Kit.fetch(x, 0, "GET /\n\n");
        Kit.ask(x, 2, Kit.put("/", "a", "s99p", "x"));
        Kit.fetch(x, 0, "GET /\nC:n\n\n");
        KIT.dueStore(x, "when p comes with 304", 0, 0);
    }

    private static void notStoredByTheRequest() {
        KIT.sentence("or x in the request's C");
        for (String control : new String[] {"x", "x0", "nx", "a9,x"}) {
            EdgeCache x = with(300, "s99");
            Kit.fetch(x, 0, "GET /\nC:" + control + "\n\n");
            KIT.dueStore(x, "with C:" + control, 0, 0);
        }
        for (String control : new String[] {"", "X", "p", "n", "a0"}) {
            EdgeCache x = with(300, "s99");
            Kit.fetch(x, 0, "GET /\nC:" + control + "\n\n");
            KIT.dueStore(x, "with C:" + control, 1, 24);
        }
        EdgeCache x = with(300, "s99");
        Kit.fetch(x, 0, "GET /\n\n");
        KIT.due("an answer from the store with C:x", answers(x, "GET /\nC:x\n\n"), true);
        KIT.dueStore(x, "after it", 1, 24);
        Kit.fetch(x, 0, "GET /\nC:nx\n\n");
        KIT.dueStore(x, "after C:nx", 0, 0);
    }

    private static void tooLarge() {
        KIT.sentence("or its size is more than the capacity");
        for (int capacity = 23; capacity <= 25; capacity++) {
            EdgeCache x = with(capacity, "s99");
            Kit.fetch(x, 0, "GET /\n\n");
            KIT.dueStore(x, "with capacity " + capacity, capacity < 24 ? 0 : 1, capacity < 24 ? 0 : 24);
        }
        EdgeCache x = withPaths(30, 1);
        Kit.ask(x, 2, Kit.put("/2", "a", "s99", "12345678"));
        fetchPaths(x, "12");
        dueStoredPaths(x, "after one of 31 bytes with capacity 30", "1");
        EdgeCache y = with(30, "s99");
        Kit.fetch(y, 0, "GET /\n\n");
        Kit.ask(y, 2, Kit.put("/", "a", "s99", "1234567"));
        Kit.fetch(y, 0, "GET /\nC:n\n\n");
        KIT.dueStore(y, "after 30 bytes for the same path", 1, 30);
        Kit.ask(y, 2, Kit.put("/", "a", "s99", "12345678"));
        Kit.fetch(y, 0, "GET /\nC:n\n\n");
        KIT.dueStore(y, "after 31 bytes for the same path", 0, 0);
    }

    private static void roomEnough() {
        KIT.sentence("while there is not room enough the one USED longest ago goes");
        int[] capacities = {96, 95, 79, 78};
        String[] left = {"1234", "234", "234", "34"};
        for (int i = 0; i < capacities.length; i++) {
            EdgeCache x = withPaths(capacities[i], 3);
            Kit.ask(x, 2, Kit.put("/4", "a", "s99", capacities[i] < 80 ? "12345678" : "x"));
            fetchPaths(x, "1234");
            dueStoredPaths(x, "with capacity " + capacities[i], left[i]);
        }
        EdgeCache x = withPaths(72, 3);
        Kit.ask(x, 2, Kit.put("/4", "a", "s99", "12345678"));
        fetchPaths(x, "123");
        Kit.ask(x, 1, "HEAD /1\n\nHEAD /2\n\n");
        fetchPaths(x, "4");
        dueStoredPaths(x, "when /3 and /1 were used longest ago", "24");
        KIT.due("bytes() then", x.bytes(), 55);
        EdgeCache y = withPaths(72, 3);
        fetchPaths(y, "123");
        Kit.ask(y, 2, Kit.put("/2", "a", "s99", "y"));
        Kit.fetch(y, 0, "GET /2\nC:n\n\n");
        dueStoredPaths(y, "when the room of the one that goes is enough", "123");
    }

    private static void latestUsedWhenStored() {
        KIT.sentence("it is the latest used, with the job's time and the request's V");
        EdgeCache x = withPaths(72, 4);
        fetchPaths(x, "123");
        Kit.fetch(x, 0, "GET /1\nC:n\n\n");
        fetchPaths(x, "4");
        dueStoredPaths(x, "when /1 was stored again", "134");
    }

    private static void timeOfTheJob() {
        KIT.sentence("with the job's time");
        EdgeCache x = with(300, "s9");
        x.pass(100);
        Kit.send(x, 0, "GET /\n\n");
        x.pass(3);
        x.origin(0);
        x.pass(4);
        x.arrive(0);
        KIT.due("when it arrives", Kit.read(x, 0), "200\nE:1\nK:a\nP:s9\nL:1\n\nx");
        KIT.due("the age then", Kit.ask(x, 0, "HEAD /\n\n"), "200\nE:1\nK:a\nP:s9\nA:7\nL:1\n\n");
        x.pass(1);
        KIT.due("an answer at the age of 8", answers(x, "HEAD /\n\n"), true);
        x.pass(1);
        KIT.due("an answer at the age of 9", answers(x, "HEAD /\n\n"), false);

        EdgeCache y = with(300, "s9");
        Kit.fetch(y, 0, "GET /\n\n");
        y.pass(20);
        Kit.send(y, 0, "GET /\n\n");
        y.pass(2);
        KIT.due("origin(0)", y.origin(0), 304);
        y.arrive(0);
        Kit.read(y, 0);
        KIT.due("the age after 304", Kit.ask(y, 0, "HEAD /\n\n"), "200\nE:1\nK:a\nP:s9\nA:2\nL:1\n\n");

        EdgeCache z = with(300, "s9");
        Kit.send(z, 1, "DELETE /a\n\nDELETE /b\n\n");
        Kit.send(z, 0, "GET /\n\n");
        z.pass(6);
        z.origin(0);
        z.arrive(0);
        z.pass(1);
        z.origin(0);
        z.arrive(0);
        Kit.read(z, 0);
        KIT.due("the age of one that waited 6 seconds", Kit.ask(z, 0, "HEAD /\n\n"), "200\nE:1\nK:a\nP:s9\nA:1\nL:1\n\n");
    }

    private static void variantOfTheRequest() {
        KIT.sentence("and the request's V");
        EdgeCache x = varying();
        Kit.fetch(x, 0, "GET /\nV:b\nV:b2\n\n");
        KIT.due("an answer for the V that counted", answers(x, "HEAD /\nV:b2\n\n"), true);
        KIT.due("an answer for the V before it", answers(x, "HEAD /\nV:b\n\n"), false);
    }
}
