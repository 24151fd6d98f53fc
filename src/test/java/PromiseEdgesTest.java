/** Promises 1 to 15: each sentence that names a boundary, on both sides of it. */
public final class PromiseEdgesTest {
    private static final Kit KIT = new Kit();
    private static final int[] NO_CONNECTIONS = {-1, 3, 4, Integer.MIN_VALUE, Integer.MAX_VALUE};
    private static final int[] NO_UPSTREAMS = {-1, 2, 3, Integer.MIN_VALUE, Integer.MAX_VALUE};

    public static void main(String[] args) {
        newObject();
        leastCapacity();
        greatestCapacity();
        zeros();
        shut();
        twentyHandled();
        fourWithoutAnswer();
        refusedOnesCount();
        fullOutput();
        firstByteEndsTheCall();
        handledWhen();
        shuttingByteIsTaken();
        noConnection();
        eightBytes();
        noBytes();
        pendingBytes();
        waitingRequests();
        notShut();
        secondsToPass();
        zeroSeconds();
        tenSecondsAgo();
        doneOrNot();
        meansNothingToTheCache();
        sentAfterBoth();
        howManyEnded();
        nothingForOrigin();
        nothingToArrive();
        arrivedStatus();
        upstreamStates();
        waitingJobs();
        storedResponses();
        latestTag();
        clock();
        KIT.end();
    }

    private static void newObject() {
        KIT.sentence("Nothing stored, no resource, nothing on the upstreams, clock 0.");
        for (int capacity : new int[] {Integer.MIN_VALUE, 0, 300, Integer.MAX_VALUE}) {
            EdgeCache x = new EdgeCache(capacity);
            KIT.dueStore(x, "at first", 0, 0);
            KIT.dueJobs(x, "at first", 0, 0, 0);
            KIT.due("clock() at first", x.clock(), 0);
            KIT.due("tag() at first", x.tag(), 0);
            KIT.due("a resource", Kit.ask(x, 2, "GET /\n\nDELETE /\n\n"), Kit.bare(404).repeat(2));
        }
    }

    /** A response of so many bytes, 18 .. 36, is offered to a new object; what bytes() answers then. */
    private static int bytesOf(int size, int capacity) {
        EdgeCache x = new EdgeCache(capacity);
        Kit.ask(x, 2, "PUT /\nL:" + Math.min(8, size - 17) + "\n\n" + "x".repeat(Math.min(8, size - 17)));
        Kit.fetch(x, 0, "GET /\n\n");
        return x.bytes();
    }

    private static void leastCapacity() {
        KIT.sentence("less than 0 counts as 0");
        for (int capacity : new int[] {Integer.MIN_VALUE, -300, -18, -1, 0, 17}) {
            KIT.due("bytes() of 18 with capacity " + capacity, bytesOf(18, capacity), 0);
        }
        KIT.due("bytes() of 18 with capacity 18", bytesOf(18, 18), 18);
    }

    /** Seven responses of 40 bytes, then one of size; what is left. */
    private static String leftOf(int size, int capacity) {
        EdgeCache x = new EdgeCache(capacity);
        Kit.ask(x, 2, Kit.put("/", "a", "s1234567", "12345678") + Kit.put("/", "b", "s1234567", "12345678"));
        Kit.ask(x, 2, Kit.put("/x", "a", "", "1234".substring(0, size - 17)));
        for (int i = 1; i <= 7; i++) {
            Kit.fetch(x, 0, "GET /\nV:a" + i + "\n\n");
        }
        Kit.fetch(x, 1, "GET /x\n\n");
        return x.stored() + " of " + x.bytes();
    }

    private static void greatestCapacity() {
        KIT.sentence("more than 300 as 300");
        for (int capacity : new int[] {300, 301, 302, 1000, Integer.MAX_VALUE}) {
            KIT.due("left of 300 bytes with capacity " + capacity, leftOf(20, capacity), "8 of 300");
            KIT.due("left of 301 bytes with capacity " + capacity, leftOf(21, capacity), "7 of 261");
        }
        KIT.due("left of 299 bytes with capacity 299", leftOf(19, 299), "8 of 299");
        KIT.due("left of 300 bytes with capacity 299", leftOf(20, 299), "7 of 260");
    }

    private static void zeros() {
        KIT.sentence("those of the number eight, from the highest to the lowest, zeros left out (they count for nothing)");
        EdgeCache x = new EdgeCache(0);
        KIT.due("no byte", x.feed(2, 0L), 0);
        KIT.due("zeros between", x.feed(2, 0x4700450054002000L), 4);
        KIT.due("zeros before", x.feed(2, 0x2fL), 1);
        KIT.due("zeros behind", x.feed(2, 0x0a00000000000000L), 1);
        KIT.due("zeros before and behind", x.feed(2, 0x0000000a00000000L), 1);
        KIT.due("the answer", Kit.read(x, 2), Kit.bare(404));
        KIT.due("eight bytes", x.feed(2, 0x474554202f0a0a0aL), 8);
        KIT.due("the answer", Kit.read(x, 2), Kit.bare(404));
        KIT.due("eight bytes, the highest 255", x.feed(2, 0xff01020304050607L), 8);
        KIT.due("no byte is 0", Kit.send(x, 2, "123456789012"), 12);
        KIT.due("open(2) with 20 bytes", x.open(2), true);
        KIT.due("zeros and the 21st", x.feed(2, 0x0001000000000000L), 1);
        KIT.due("open(2) with 21", x.open(2), false);
        KIT.due("zeros when it is shut", x.feed(2, 0L), 0);
    }

    private static void shut() {
        KIT.sentence("not when the connection is shut");
        for (int c = 0; c < 3; c++) {
            EdgeCache x = new EdgeCache(0);
            KIT.due("before", Kit.send(x, c, "X"), 1);
            KIT.due("the last one", x.feed(c, '\n'), 1);
            KIT.due("one more", x.feed(c, '\n'), 0);
            Kit.read(x, c);
            KIT.due("one more after its answer", x.feed(c, '\n'), 0);
            KIT.due("another connection", x.feed((c + 1) % 3, '\n'), 1);
        }
    }

    private static void twentyHandled() {
        KIT.sentence("when 20 of its requests were handled");
        EdgeCache x = new EdgeCache(0);
        for (int i = 1; i <= 19; i++) {
            Kit.ask(x, 2, "GET /\n\n");
        }
        KIT.due("a byte after 19", x.feed(2, '\n'), 1);
        KIT.due("the twentieth and more", Kit.send(x, 2, "GET /\n\n\n"), 7);
        KIT.due("its answer", Kit.read(x, 2), Kit.bare(404));
        KIT.due("a byte after 20", x.feed(2, '\n'), 0);
        KIT.due("open(2)", x.open(2), true);
        KIT.due("another connection", Kit.send(x, 0, "GET /\n\n"), 7);

        EdgeCache y = new EdgeCache(0);
        for (int i = 1; i <= 19; i++) {
            Kit.fetch(y, i % 2, "GET /\n\n");
            Kit.fetch(y, 1 - i % 2, "GET /\n\n");
        }
        for (int c = 0; c < 2; c++) {
            KIT.due("the twentieth on " + c, Kit.send(y, c, "GET /\n\nGET"), 7);
            y.origin(0);
            y.arrive(0);
            KIT.due("its answer on " + c, Kit.read(y, c), Kit.bare(404));
            KIT.due("a byte after 20 on " + c, y.feed(c, 'G'), 0);
        }
        EdgeCache z = new EdgeCache(0);
        for (int i = 1; i <= 19; i++) {
            Kit.ask(z, 2, "GET /\n\n");
        }
        KIT.due("the twentieth is refused", Kit.send(z, 2, "X\n\n"), 2);
        KIT.due("its answer", Kit.read(z, 2), Kit.bare(400));
        KIT.due("open(2) then", z.open(2), false);
    }

    private static void fourWithoutAnswer() {
        KIT.sentence("when 4 of its requests have no answer in its output yet");
        for (int c = 0; c < 2; c++) {
            EdgeCache x = new EdgeCache(0);
            KIT.due("three", Kit.send(x, c, "GET /\n\n".repeat(3)), 21);
            KIT.due("a byte after three", x.feed(c, '\n'), 1);
            KIT.due("the fourth and more", Kit.send(x, c, "GET /\n\n\n"), 7);
            KIT.due("a byte after four", x.feed(c, '\n'), 0);
            KIT.due("open after four", x.open(c), true);
            KIT.due("the other connection", x.feed(1 - c, '\n'), 1);
            x.origin(1);
            x.arrive(1);
            KIT.due("a byte when the second is ready", x.feed(c, '\n'), 0);
            x.origin(0);
            x.arrive(0);
            KIT.due("a byte when two have gone to the output", x.feed(c, '\n'), 1);
            KIT.due("two more", Kit.send(x, c, "GET /\n\n".repeat(3)), 14);
        }
    }

    private static void refusedOnesCount() {
        KIT.sentence("(refused ones count too)");
        EdgeCache x = new EdgeCache(0);
        Kit.send(x, 0, "GET /\n\n".repeat(3));
        KIT.due("a refused one behind three", Kit.send(x, 0, "X\nX\n"), 2);
        KIT.due("waiting(0) with it", x.waiting(0), 4);
        KIT.due("a byte then", x.feed(0, '\n'), 0);
        for (int i = 0; i < 3; i++) {
            x.origin(0);
            x.arrive(0);
            x.origin(1);
            x.arrive(1);
        }
        KIT.due("waiting(0) at the end", x.waiting(0), 0);
        KIT.due("the answers", Kit.read(x, 0), Kit.bare(404).repeat(3) + Kit.bare(400));
    }

    /** Output of 9 bytes for each one that is not there and of 17 for each HEAD. */
    private static EdgeCache withOutput(int missing, int heads) {
        EdgeCache x = new EdgeCache(0);
        Kit.ask(x, 2, "PUT /\n\n");
        Kit.send(x, 2, "GET /x\n\n".repeat(missing) + "HEAD /\n\n".repeat(heads));
        return x;
    }

    private static void fullOutput() {
        KIT.sentence("or when 200 or more bytes are in its output");
        EdgeCache x = withOutput(7, 8);
        KIT.due("pending(2)", x.pending(2), 199);
        KIT.due("a byte at 199", x.feed(2, '\n'), 1);
        EdgeCache y = withOutput(9, 7);
        KIT.due("pending(2)", y.pending(2), 200);
        KIT.due("a byte at 200", y.feed(2, '\n'), 0);
        KIT.due("open(2) at 200", y.open(2), true);
        KIT.due("another connection", y.feed(0, '\n'), 1);
        y.out(2);
        KIT.due("a byte at 192", y.feed(2, '\n'), 1);
        EdgeCache z = withOutput(9, 6);
        KIT.due("pending(2)", z.pending(2), 183);
        KIT.due("the one that makes it 200, and more", Kit.send(z, 2, "HEAD /\n\n\n"), 8);
        KIT.due("pending(2) then", z.pending(2), 200);
        EdgeCache v = withOutput(8, 7);
        KIT.due("pending(2)", v.pending(2), 191);
        KIT.due("the one that makes it 208, and more", Kit.send(v, 2, "HEAD /\n\n\n"), 8);
        KIT.due("a byte at 208", v.feed(2, '\n'), 0);
        v.out(2);
        KIT.due("a byte at 200", v.feed(2, '\n'), 0);
        v.out(2);
        KIT.due("a byte at 192", v.feed(2, '\n'), 1);
        arrivingAbove();
    }

    private static void arrivingAbove() {
        EdgeCache x = new EdgeCache(0);
        Kit.ask(x, 2, Kit.put("/", "a", "12345678", "12345678") + Kit.put("/", "b", "12345678", "12345678"));
        String answer = "206\nE:1\nK:a\nY:V\nP:12345678\nR:2\nL:26\n\n0-7=12345678\n0-7=12345678\n";
        for (int i = 0; i < 2; i++) {
            Kit.send(x, 0, "GET /\nR:0-,0-\n\n");
            x.origin(0);
            x.arrive(0);
        }
        KIT.due("pending(0) with two", x.pending(0), 126);
        KIT.due("four more", Kit.send(x, 0, "GET /\nR:0-,0-\n\n".repeat(4)), 60);
        for (int i = 0; i < 2; i++) {
            x.origin(0);
            x.arrive(0);
            x.origin(1);
            x.arrive(1);
        }
        KIT.due("pending(0) with six", x.pending(0), 378);
        KIT.due("a byte at 378", x.feed(0, '\n'), 0);
        KIT.due("the answers", Kit.read(x, 0), answer.repeat(6));
        KIT.due("a byte at 0", x.feed(0, '\n'), 1);
    }

    private static void firstByteEndsTheCall() {
        KIT.sentence("The first byte that may not be taken ends the call.");
        EdgeCache x = new EdgeCache(0);
        Kit.send(x, 0, "GET /\n\n".repeat(3));
        Kit.send(x, 0, "GET");
        KIT.due("four bytes of eight", x.feed(0, 0x202f0a0a47455420L), 4);
        x.origin(0);
        x.arrive(0);
        KIT.due("a byte then", x.feed(0, '/'), 1);
        KIT.due("those before it were not taken", x.feed(0, 0x0a), 1);
        KIT.due("open(0)", x.open(0), false);
        KIT.due("a zero and a byte when it is shut", x.feed(0, 0x0a00L), 0);
    }

    private static void handledWhen() {
        KIT.sentence("A request is handled when it is complete, or refused.");
        String[] requests = {"GET /\n\n", "PUT /\nL:2\n\nxy", "PUT /\nT:c\n\n1\nx\n0\n\n", "X\n", "GET /\nL:9\n\n"};
        for (String request : requests) {
            EdgeCache x = new EdgeCache(0);
            Kit.send(x, 0, request.substring(0, request.length() - 1));
            KIT.due("waiting(0) before the end of '" + request.replace("\n", "|") + "'", x.waiting(0) + x.pending(0), 0);
            Kit.send(x, 0, request.substring(request.length() - 1));
            boolean refused = !x.open(0);
            KIT.due("waiting(0) at the end", x.waiting(0), refused ? 0 : 1);
            KIT.due("pending(0) at the end", x.pending(0), refused ? 9 : 0);
        }
    }

    private static void shuttingByteIsTaken() {
        KIT.sentence("Answers how many bytes were taken (the one that shuts the connection is one)");
        EdgeCache x = new EdgeCache(0);
        KIT.due("X, LF and more", x.feed(2, 0x580a474554202f0aL), 2);
        EdgeCache y = new EdgeCache(0);
        KIT.due("seven and the LF", y.feed(2, 0x585858585858580aL), 8);
        KIT.due("open(2)", y.open(2), false);
        EdgeCache z = new EdgeCache(0);
        Kit.send(z, 2, "12345678901234567890");
        KIT.due("the 21st and more", z.feed(2, 0x3131L), 1);
    }

    private static void noConnection() {
        KIT.sentence("0 when c is not 0 .. 2");
        EdgeCache x = new EdgeCache(0);
        for (int c : NO_CONNECTIONS) {
            KIT.due("feed(" + c + ")", x.feed(c, 0x580a), 0);
        }
        for (int c = 0; c < 3; c++) {
            KIT.due("open(" + c + ") then", x.open(c), true);
            KIT.due("feed(" + c + ")", x.feed(c, 0x580a), 2);
        }
    }

    private static void eightBytes() {
        KIT.sentence("Takes (they are gone then) the first eight bytes, or all if there are fewer");
        EdgeCache x = new EdgeCache(0);
        Kit.send(x, 2, "PUT /\nL:8\n\n\u00ff\u0080\u0001\u0001\u0001\u0001\u0001\u0001");
        KIT.due("pending(2)", x.pending(2), 13);
        KIT.due("eight of 13", x.out(2), 0x3230310a453a310aL);
        KIT.due("pending(2)", x.pending(2), 5);
        KIT.due("five of 5", x.out(2), 0x4c3a300a0aL);
        KIT.due("none", x.out(2), 0L);
        Kit.send(x, 2, "GET /\n\n");
        KIT.due("pending(2)", x.pending(2), 25);
        x.out(2);
        x.out(2);
        KIT.due("the last LF and seven of the body", x.out(2), 0x0aff800101010101L);
        KIT.due("one of 1", x.out(2), 1L);
        KIT.due("pending(2)", x.pending(2), 0);
        Kit.send(x, 2, "GET /x\n\nGET /x\n\nGET /\n\n");
        KIT.due("pending(2)", x.pending(2), 43);
        for (int i = 0; i < 4; i++) {
            x.out(2);
        }
        KIT.due("pending(2)", x.pending(2), 11);
        KIT.due("eight of 11", x.out(2), 0x380a0aff80010101L);
        KIT.due("three of 3", x.out(2), 0x010101L);
        highestByte();
    }

    private static void highestByte() {
        EdgeCache x = new EdgeCache(0);
        Kit.ask(x, 2, "PUT /\nP:1234\nL:8\n\n\u00ff\u00fe\u0080\u007f\u0001\u0002\u0003\u0004");
        Kit.send(x, 2, "GET /\n\n");
        KIT.due("pending(2)", x.pending(2), 32);
        for (int i = 0; i < 3; i++) {
            x.out(2);
        }
        KIT.due("eight of 8, the first 255", x.out(2), 0xfffe807f01020304L);
        KIT.due("pending(2) after them", x.pending(2), 0);
    }

    private static void noBytes() {
        KIT.sentence("0 when there are none, or c is not 0 .. 2");
        EdgeCache x = new EdgeCache(0);
        Kit.send(x, 2, "GET /\n\n");
        for (int c : NO_CONNECTIONS) {
            KIT.due("out(" + c + ")", x.out(c), 0L);
        }
        KIT.due("out(0)", x.out(0), 0L);
        KIT.due("out(1)", x.out(1), 0L);
        KIT.due("pending(2) then", x.pending(2), 9);
        KIT.due("out(2)", x.out(2), 0x3430340a4c3a300aL);
        KIT.due("out(2) again", x.out(2), 0x0aL);
        KIT.due("out(2) with none", x.out(2), 0L);
        Kit.send(x, 0, "GET /\n\n");
        KIT.due("out(0) with one that waits", x.out(0), 0L);
    }

    private static void pendingBytes() {
        KIT.sentence("How many bytes are in the output of connection c; NONE when c is not 0 .. 2.");
        EdgeCache x = new EdgeCache(0);
        Kit.send(x, 2, "GET /\n\n");
        Kit.send(x, 1, "X\nX\n");
        int[] due = {0, 9, 9};
        for (int c = 0; c < 3; c++) {
            KIT.due("pending(" + c + ")", x.pending(c), due[c]);
        }
        x.out(1);
        KIT.due("pending(1) after out(1)", x.pending(1), 1);
        for (int c : NO_CONNECTIONS) {
            KIT.due("pending(" + c + ")", x.pending(c), EdgeCache.NONE);
        }
    }

    private static void waitingRequests() {
        KIT.sentence("How many requests of connection c that were handled have no answer in its output yet; NONE when c is not 0 .. 2.");
        EdgeCache x = new EdgeCache(0);
        Kit.send(x, 0, "GET /\n\nGET /\n\nGET /\n");
        Kit.send(x, 1, "GET /\n");
        Kit.send(x, 2, "GET /\n\nGET");
        int[] due = {2, 0, 0};
        for (int c = 0; c < 3; c++) {
            KIT.due("waiting(" + c + ")", x.waiting(c), due[c]);
        }
        Kit.send(x, 0, "\nGET /\n\n");
        KIT.due("waiting(0) with four", x.waiting(0), 4);
        x.origin(0);
        KIT.due("waiting(0) when the origin has done one", x.waiting(0), 4);
        x.arrive(0);
        KIT.due("waiting(0) when it has arrived", x.waiting(0), 3);
        for (int c : NO_CONNECTIONS) {
            KIT.due("waiting(" + c + ")", x.waiting(c), EdgeCache.NONE);
        }
    }

    private static void notShut() {
        KIT.sentence("Whether connection c is not shut; false when c is not 0 .. 2.");
        EdgeCache x = new EdgeCache(0);
        Kit.send(x, 1, "X\n");
        boolean[] due = {true, false, true};
        for (int c = 0; c < 3; c++) {
            KIT.due("open(" + c + ")", x.open(c), due[c]);
        }
        for (int c : NO_CONNECTIONS) {
            KIT.due("open(" + c + ")", x.open(c), false);
        }
    }

    private static void secondsToPass() {
        KIT.sentence("The clock goes forward by n seconds, 0 .. 1000 (otherwise NONE, and nothing changes).");
        EdgeCache x = new EdgeCache(0);
        Kit.send(x, 0, "GET /\n\nGET /\n\nGET /\n\n");
        for (int n : new int[] {-1, -1000, 1001, 1002, Integer.MIN_VALUE, Integer.MAX_VALUE}) {
            KIT.due("pass(" + n + ")", x.pass(n), EdgeCache.NONE);
            KIT.due("clock() after it", x.clock(), 0);
            KIT.dueJobs(x, "after it", 1, 1, 1);
        }
        int[] seconds = {0, 1, 1000, 0, 999};
        int[] ended = {0, 0, 2, 0, 1};
        int clock = 0;
        for (int i = 0; i < seconds.length; i++) {
            KIT.due("pass(" + seconds[i] + ")", x.pass(seconds[i]), ended[i]);
            clock += seconds[i];
            KIT.due("clock()", x.clock(), clock);
        }
    }

    private static void zeroSeconds() {
        KIT.sentence("Then (also for n 0) every job on an upstream that was sent 10 or more seconds ago ends");
        EdgeCache x = new EdgeCache(0);
        Kit.send(x, 0, "GET /\n\n");
        KIT.due("pass(0) at once", x.pass(0), 0);
        x.pass(9);
        KIT.due("pass(0) after 9", x.pass(0), 0);
        KIT.dueJobs(x, "after 9", 1, 0, 0);
        KIT.due("pass(1)", x.pass(1), 1);
        KIT.due("pass(0) after 10", x.pass(0), 0);
        KIT.dueJobs(x, "after 10", 0, 0, 0);
        KIT.due("clock()", x.clock(), 10);
    }

    private static void tenSecondsAgo() {
        KIT.sentence("every job on an upstream that was sent 10 or more seconds ago ends");
        for (int seconds : new int[] {0, 9, 10, 11, 1000}) {
            EdgeCache x = new EdgeCache(0);
            x.pass(5);
            Kit.send(x, 0, "GET /\n\n");
            KIT.due("pass(" + seconds + ")", x.pass(seconds), seconds < 10 ? 0 : 1);
            KIT.due("upstream(0) then", x.upstream(0), seconds < 10 ? 1 : 0);
            KIT.due("the answer then", Kit.read(x, 0), seconds < 10 ? "" : Kit.bare(504));
            KIT.due("waiting(0) then", x.waiting(0), seconds < 10 ? 1 : 0);
        }
        EdgeCache y = new EdgeCache(0);
        Kit.send(y, 0, "GET /\n\n");
        y.pass(1);
        Kit.send(y, 1, "GET /\n\n");
        KIT.due("pass(9)", y.pass(9), 1);
        KIT.dueJobs(y, "when one is 10 old and one 9", 0, 1, 0);
        KIT.due("pass(1)", y.pass(1), 1);
        KIT.dueJobs(y, "when the other is 10 old", 0, 0, 0);
    }

    private static void doneOrNot() {
        KIT.sentence("ends, whether the origin has done it or not");
        EdgeCache x = new EdgeCache(0);
        Kit.send(x, 0, "PUT /a\n\nPUT /b\n\n");
        x.origin(0);
        KIT.due("pass(9)", x.pass(9), 0);
        KIT.dueJobs(x, "after 9", 2, 1, 0);
        KIT.due("pass(1)", x.pass(1), 2);
        KIT.dueJobs(x, "after 10", 0, 0, 0);
        KIT.due("the answers", Kit.read(x, 0), Kit.bare(504).repeat(2));
        KIT.due("origin(1)", x.origin(1), EdgeCache.NONE);
        KIT.due("arrive(0)", x.arrive(0), EdgeCache.NONE);
        KIT.due("what the origin has done is done", Kit.ask(x, 2, "HEAD /a\n\nHEAD /b\n\n"), "200\nE:1\nK:a\nL:0\n\n" + Kit.bare(404));
        Kit.send(x, 0, "DELETE /a\n\n");
        x.origin(0);
        x.pass(10);
        KIT.due("DELETE, too", Kit.ask(x, 2, "HEAD /a\n\n"), Kit.bare(404));
    }

    private static void meansNothingToTheCache() {
        KIT.sentence("whatever the origin did or does with it means nothing to the cache");
        for (String request : new String[] {"PUT /\n\n", "DELETE /\n\n", "GET /\nC:n\n\n", "GET /\nC:nx\n\n"}) {
            for (int seconds = 9; seconds <= 10; seconds++) {
                EdgeCache x = new EdgeCache(300);
                Kit.ask(x, 2, Kit.put("/", "a", "s99", "x"));
                Kit.fetch(x, 0, "GET /\n\n");
                Kit.ask(x, 2, Kit.put("/", "a", "s99", "yy"));
                Kit.send(x, 0, request);
                x.origin(0);
                x.pass(seconds);
                x.arrive(0);
                int bytes = request.contains("C:n\n") ? 25 : 0;
                KIT.due("bytes() after '" + request.replace("\n", "|") + "' and " + seconds, x.bytes(), seconds == 10 ? 24 : bytes);
            }
        }
    }

    private static void sentAfterBoth() {
        KIT.sentence("After both, waiting jobs are sent, at the new clock.");
        EdgeCache x = new EdgeCache(0);
        Kit.send(x, 0, "PUT /1\n\nPUT /2\n\nPUT /3\n\nPUT /4\n\n");
        Kit.send(x, 1, "PUT /5\n\n");
        KIT.due("pass(12)", x.pass(12), 2);
        KIT.dueJobs(x, "after both", 1, 1, 1);
        KIT.due("pass(9)", x.pass(9), 0);
        x.origin(0);
        KIT.due("the first of them is on upstream 0", Kit.ask(x, 2, "HEAD /3\n\n"), "200\nE:1\nK:a\nL:0\n\n");
        KIT.due("pass(1)", x.pass(1), 2);
        KIT.dueJobs(x, "after both again", 1, 0, 0);
        x.origin(0);
        KIT.due("the last is on upstream 0", Kit.ask(x, 2, "HEAD /5\n\n"), "200\nE:2\nK:a\nL:0\n\n");
        EdgeCache y = new EdgeCache(0);
        Kit.send(y, 0, "PUT /1\n\n");
        y.pass(1);
        Kit.send(y, 0, "PUT /2\n\nPUT /3\n\n");
        y.origin(0);
        y.arrive(0);
        KIT.dueJobs(y, "with the third on upstream 0", 1, 1, 0);
        Kit.send(y, 0, "PUT /4\n\n");
        y.pass(8);
        y.origin(0);
        y.arrive(0);
        KIT.dueJobs(y, "with the fourth on upstream 0", 1, 1, 0);
        Kit.send(y, 0, "PUT /5\n\n");
        KIT.due("pass(2) ends upstream 1 alone", y.pass(2), 1);
        y.origin(1);
        KIT.due("the waiting one is on upstream 1", Kit.ask(y, 2, "HEAD /5\n\nHEAD /4\n\n"), "200\nE:3\nK:a\nL:0\n\n" + Kit.bare(404));
    }

    private static void howManyEnded() {
        KIT.sentence("Answers how many ended.");
        for (int jobs = 0; jobs <= 4; jobs++) {
            EdgeCache x = new EdgeCache(0);
            Kit.send(x, 0, "GET /\n\n".repeat(jobs));
            KIT.due("pass(10) with " + jobs, x.pass(10), Math.min(2, jobs));
            KIT.due("pass(10) again with " + jobs, x.pass(10), Math.max(0, jobs - 2));
            KIT.due("the answers", Kit.read(x, 0), Kit.bare(504).repeat(jobs));
        }
    }

    private static void nothingForOrigin() {
        KIT.sentence("NONE, changing nothing, when there is no job on it, u is not 0 or 1, or the origin has done it already");
        EdgeCache x = new EdgeCache(0);
        KIT.due("origin(0) without a job", x.origin(0), EdgeCache.NONE);
        KIT.due("origin(1) without a job", x.origin(1), EdgeCache.NONE);
        Kit.send(x, 0, "PUT /\nL:1\n\nx");
        for (int u : NO_UPSTREAMS) {
            KIT.due("origin(" + u + ")", x.origin(u), EdgeCache.NONE);
        }
        KIT.due("origin(1) without a job", x.origin(1), EdgeCache.NONE);
        KIT.due("tag() then", x.tag(), 0);
        KIT.dueJobs(x, "then", 1, 0, 0);
        KIT.due("origin(0)", x.origin(0), 201);
        Kit.ask(x, 2, "PUT /\nL:1\n\ny");
        KIT.due("origin(0) again", x.origin(0), EdgeCache.NONE);
        KIT.due("tag() after it", x.tag(), 2);
        KIT.dueJobs(x, "after it", 2, 0, 0);
        KIT.due("arrive(0)", x.arrive(0), 201);
        KIT.due("origin(0) after it", x.origin(0), EdgeCache.NONE);
        KIT.due("the answer", Kit.read(x, 0), "201\nE:1\nL:0\n\n");
    }

    private static void nothingToArrive() {
        KIT.sentence("NONE, changing nothing, when the origin has not done a job on it, or u is not 0 or 1");
        EdgeCache x = new EdgeCache(0);
        KIT.due("arrive(0) without a job", x.arrive(0), EdgeCache.NONE);
        Kit.send(x, 0, "GET /\n\nGET /\n\nGET /\n\n");
        KIT.due("arrive(0) before the origin has done it", x.arrive(0), EdgeCache.NONE);
        KIT.due("arrive(1) before the origin has done it", x.arrive(1), EdgeCache.NONE);
        x.origin(1);
        KIT.due("arrive(0) when the other is done", x.arrive(0), EdgeCache.NONE);
        for (int u : NO_UPSTREAMS) {
            KIT.due("arrive(" + u + ")", x.arrive(u), EdgeCache.NONE);
        }
        KIT.dueJobs(x, "then", 1, 2, 1);
        KIT.due("arrive(1)", x.arrive(1), 404);
        KIT.dueJobs(x, "after it", 1, 1, 0);
        KIT.due("arrive(1) for the next job", x.arrive(1), EdgeCache.NONE);
        KIT.due("waiting(0)", x.waiting(0), 3);
    }

    private static void arrivedStatus() {
        KIT.sentence("as origin did, 200 or 304 also where what is selected of it has another one");
        String[] lines = {"", "M:9\n", "N:1\n", "R:9-\n", "R:0-\n"};
        int[] statuses = {200, 412, 304, 416, 206};
        for (int i = 0; i < lines.length; i++) {
            EdgeCache x = new EdgeCache(300);
            Kit.ask(x, 2, Kit.put("/", "a", "", "x"));
            for (int status : new int[] {200, 304}) {
                Kit.send(x, 0, "GET /\n" + lines[i] + "\n");
                KIT.due("origin(0) with '" + lines[i] + "'", x.origin(0), status);
                KIT.due("arrive(0) with '" + lines[i] + "'", x.arrive(0), status);
                KIT.due("the status of the answer", Kit.read(x, 0).substring(0, 3), "" + statuses[i]);
            }
        }
    }

    private static void upstreamStates() {
        KIT.sentence("0 when upstream u is free, 1 when a job is on it that the origin has not done, 2 when it has; NONE when u is not 0 or 1");
        EdgeCache x = new EdgeCache(0);
        KIT.dueJobs(x, "without a job", 0, 0, 0);
        Kit.send(x, 0, "GET /\n\nGET /\n\n");
        KIT.dueJobs(x, "with two", 1, 1, 0);
        x.origin(1);
        KIT.dueJobs(x, "with one done", 1, 2, 0);
        x.arrive(1);
        KIT.dueJobs(x, "with one arrived", 1, 0, 0);
        for (int u : NO_UPSTREAMS) {
            KIT.due("upstream(" + u + ")", x.upstream(u), EdgeCache.NONE);
        }
    }

    private static void waitingJobs() {
        KIT.sentence("How many jobs wait that were not sent.");
        EdgeCache x = new EdgeCache(0);
        int[] due = {0, 0, 1, 2, 3, 4, 5, 6};
        for (int i = 0; i < 8; i++) {
            Kit.send(x, i % 2, "GET /\n\n");
            KIT.due("queue() with " + (i + 1), x.queue(), due[i]);
        }
        Kit.ask(x, 2, "GET /\n\n");
        KIT.due("queue() after a request to the origin", x.queue(), 6);
        x.origin(0);
        KIT.due("queue() after origin(0)", x.queue(), 6);
        x.arrive(0);
        KIT.due("queue() after arrive(0)", x.queue(), 5);
        KIT.due("pass(10)", x.pass(10), 2);
        KIT.due("queue() after pass(10)", x.queue(), 3);
    }

    private static void storedResponses() {
        KIT.sentence("How many responses are stored.");
        EdgeCache x = new EdgeCache(300);
        Kit.ask(x, 2, Kit.put("/1", "a", "", "") + Kit.put("/2", "a", "", "x") + Kit.put("/3", "a", "s9", "12345678"));
        KIT.dueStore(x, "when the origin has three", 0, 0);
        int[] bytes = {17, 35, 65};
        for (int i = 1; i <= 3; i++) {
            Kit.fetch(x, 0, "GET /" + i + "\n\n");
            KIT.dueStore(x, "after /" + i, i, bytes[i - 1]);
        }
        Kit.fetch(x, 0, "DELETE /2\n\n");
        KIT.dueStore(x, "after DELETE", 2, 47);
        Kit.fetch(x, 0, "GET /4\n\n");
        KIT.dueStore(x, "after 404", 2, 47);
    }

    private static void latestTag() {
        KIT.sentence("The latest tag given; 0 when none was.");
        EdgeCache x = new EdgeCache(0);
        KIT.due("tag() at first", x.tag(), 0);
        Kit.ask(x, 2, "PUT /\nK:q\n\nPUT /\nM:*\n\n");
        KIT.due("tag() after two that gave none", x.tag(), 0);
        Kit.ask(x, 2, "PUT /\n\n");
        KIT.due("tag() after the first", x.tag(), 1);
        Kit.send(x, 0, "PUT /\nL:1\n\nx");
        KIT.due("tag() before the origin does it", x.tag(), 1);
        x.origin(0);
        KIT.due("tag() when the origin has done it", x.tag(), 2);
        x.arrive(0);
        Kit.ask(x, 2, "PUT /\nL:1\n\nxDELETE /\n\n");
        KIT.due("tag() after the same body and DELETE", x.tag(), 2);
    }

    private static void clock() {
        KIT.sentence("The clock.");
        EdgeCache x = new EdgeCache(0);
        KIT.due("clock() at first", x.clock(), 0);
        for (int i = 1; i <= 500; i++) {
            x.pass(1000);
        }
        KIT.due("clock() after 500 calls", x.clock(), 500000);
        x.pass(0);
        KIT.due("clock() after pass(0)", x.clock(), 500000);
        x.pass(1001);
        KIT.due("clock() after pass(1001)", x.clock(), 500000);
    }
}
