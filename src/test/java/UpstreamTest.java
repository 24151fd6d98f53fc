/** Promises 7 to 11: pass, origin, arrive, upstream, queue. */
public final class UpstreamTest {
    private static final Kit KIT = new Kit();

    public static void main(String[] args) {
        wrongArguments();
        sending();
        statuses();
        timeouts();
        lateOrigin();
        KIT.end();
    }

    private static void wrongArguments() {
        EdgeCache x = new EdgeCache(0);
        Kit.send(x, 0, "GET /\n\nGET /\n\n");
        for (int u : new int[] {-1, 2, Integer.MIN_VALUE, Integer.MAX_VALUE}) {
            KIT.due("origin(" + u + ")", x.origin(u), -1);
            KIT.due("arrive(" + u + ")", x.arrive(u), -1);
            KIT.due("upstream(" + u + ")", x.upstream(u), -1);
        }
        for (int n : new int[] {-1, 1001, Integer.MIN_VALUE, Integer.MAX_VALUE}) {
            KIT.due("pass(" + n + ")", x.pass(n), -1);
        }
        KIT.due("clock()", x.clock(), 0);
        KIT.due("upstream(0)", x.upstream(0), 1);
        KIT.due("waiting(0)", x.waiting(0), 2);
        KIT.due("arrive(0) before origin(0)", x.arrive(0), -1);
        KIT.due("origin(0)", x.origin(0), 404);
        KIT.due("origin(0) again", x.origin(0), -1);
        KIT.due("arrive(0)", x.arrive(0), 404);
        KIT.due("arrive(0) again", x.arrive(0), -1);
        KIT.due("origin(0) without a job", x.origin(0), -1);
        KIT.due("pass(1000)", x.pass(1000), 1);
    }

    private static void sending() {
        EdgeCache x = new EdgeCache(0);
        Kit.send(x, 0, "PUT /a\n\n");
        KIT.dueJobs(x, "with one job", 1, 0, 0);
        Kit.send(x, 1, "PUT /b\n\nPUT /c\n\nPUT /d\n\nPUT /e\n\n");
        KIT.dueJobs(x, "with five jobs", 1, 1, 3);
        Kit.send(x, 0, "PUT /f\n\nPUT /g\n\nPUT /h\n\n");
        KIT.dueJobs(x, "with eight jobs", 1, 1, 6);
        x.origin(1);
        KIT.dueJobs(x, "with one done", 1, 2, 6);
        x.arrive(1);
        KIT.dueJobs(x, "with one arrived", 1, 1, 5);
        x.origin(1);
        x.origin(0);
        KIT.dueJobs(x, "with both done", 2, 2, 5);
        x.arrive(0);
        x.origin(0);
        KIT.due("the jobs go in the order of their coming", Kit.ask(x, 2, "HEAD /d\n\nHEAD /e\n\n"),
                "200\nE:4\nK:a\nL:0\n\n" + Kit.bare(404));
        KIT.due("and are done in the order of the calls", Kit.ask(x, 2, "HEAD /a\n\nHEAD /c\n\n"),
                "200\nE:3\nK:a\nL:0\n\n200\nE:2\nK:a\nL:0\n\n");
        x.arrive(1);
        x.arrive(0);
        KIT.dueJobs(x, "with four arrived", 1, 1, 2);
        for (int i = 0; i < 3; i++) {
            x.origin(0);
            x.arrive(0);
        }
        KIT.dueJobs(x, "with one left", 0, 1, 0);
    }

    private static void dueOrigin(EdgeCache x, String request, int want) {
        Kit.send(x, 0, request);
        KIT.due("origin(0) for " + request.replace("\n", "|"), x.origin(0), want);
        KIT.due("arrive(0) for " + request.replace("\n", "|"), x.arrive(0), want);
    }

    private static void statuses() {
        EdgeCache x = new EdgeCache(300);
        dueOrigin(x, "GET /\n\n", 404);
        dueOrigin(x, "DELETE /\n\n", 404);
        dueOrigin(x, "PUT /\nK:q\n\n", 415);
        dueOrigin(x, "PUT /\nM:*\n\n", 412);
        dueOrigin(x, "PUT /\nP:s9n\n\n", 201);
        dueOrigin(x, "PUT /\nP:s9n\n\n", 204);
        KIT.due("the answers", Kit.read(x, 0), Kit.bare(404) + Kit.bare(404) + Kit.bare(415) + Kit.bare(412)
                + "201\nE:1\nL:0\n\n204\nE:1\nL:0\n\n");
        dueOrigin(x, "GET /\nM:2\n\n", 200);
        KIT.due("what is selected has another status", Kit.read(x, 0), Kit.bare(412));
        dueOrigin(x, "GET /\nR:5-\n\n", 304);
        KIT.due("what is selected of the copy", Kit.read(x, 0), "416\nR:*/0\nL:0\n\n");
        dueOrigin(x, "HEAD /\n\n", 304);
        KIT.due("the copy, without A", Kit.read(x, 0), "200\nE:1\nK:a\nP:s9n\nL:0\n\n");
        Kit.ask(x, 2, "PUT /\nK:b\n\n");
        dueOrigin(x, "GET /\nV:\n\n", 406);
        dueOrigin(x, "DELETE /\n\n", 204);
        KIT.due("the last answers", Kit.read(x, 0), Kit.bare(406) + Kit.bare(204));
    }

    private static void timeouts() {
        EdgeCache x = new EdgeCache(300);
        Kit.send(x, 0, "PUT /a\n\n");
        x.pass(1);
        Kit.send(x, 0, "PUT /b\n\nPUT /c\n\nPUT /d\n\n");
        x.origin(0);
        KIT.due("pass(8)", x.pass(8), 0);
        KIT.dueJobs(x, "after 9 seconds", 2, 1, 2);
        KIT.due("pass(1)", x.pass(1), 1);
        KIT.dueJobs(x, "after 10 seconds", 1, 1, 1);
        KIT.due("pass(0)", x.pass(0), 0);
        KIT.due("waiting(0)", x.waiting(0), 3);
        KIT.due("its answer", Kit.read(x, 0), Kit.bare(504));
        KIT.due("what the origin did is done", Kit.ask(x, 2, "HEAD /a\n\n"), "200\nE:1\nK:a\nL:0\n\n");
        KIT.due("pass(1000)", x.pass(1000), 2);
        KIT.dueJobs(x, "after both ended", 1, 0, 0);
        KIT.due("sent at the new clock", x.pass(9), 0);
        KIT.due("pass(1) ends it", x.pass(1), 1);
        KIT.due("the answers", Kit.read(x, 0), Kit.bare(504) + Kit.bare(504) + Kit.bare(504));
        KIT.due("not done, and gone", Kit.ask(x, 2, "HEAD /b\n\nHEAD /d\n\n"), Kit.bare(404) + Kit.bare(404));
        KIT.dueJobs(x, "at the end", 0, 0, 0);
    }

    private static void lateOrigin() {
        EdgeCache x = new EdgeCache(300);
        Kit.ask(x, 2, Kit.put("/", "a", "s99", "x"));
        Kit.fetch(x, 0, "GET /\n\n");
        Kit.send(x, 1, "PUT /\n\n");
        x.origin(0);
        KIT.due("pass(10)", x.pass(10), 1);
        KIT.due("arrive(0)", x.arrive(0), -1);
        KIT.due("a PUT that ended leaves the store", x.stored(), 1);
        KIT.due("an answer of the old body", Kit.ask(x, 0, "GET /\n\n"), "200\nE:1\nK:a\nP:s99\nA:10\nL:1\n\nx");
        Kit.send(x, 1, "GET /\nC:n\n\n");
        x.origin(0);
        x.pass(10);
        KIT.due("a GET that ended leaves the store", Kit.ask(x, 0, "HEAD /\n\n"), "200\nE:1\nK:a\nP:s99\nA:20\nL:1\n\n");
        KIT.due("their answers", Kit.read(x, 1), Kit.bare(504) + Kit.bare(504));
    }
}
