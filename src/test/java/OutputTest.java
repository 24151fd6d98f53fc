/** Promises 3 to 6: out, pending, waiting, open. */
public final class OutputTest {
    private static final Kit KIT = new Kit();

    public static void main(String[] args) {
        wrongConnections();
        taking();
        order();
        KIT.end();
    }

    private static void wrongConnections() {
        EdgeCache x = new EdgeCache(0);
        for (int c : new int[] {-1, 3, Integer.MIN_VALUE, Integer.MAX_VALUE}) {
            KIT.due("out(" + c + ")", x.out(c), 0L);
            KIT.due("pending(" + c + ")", x.pending(c), -1);
            KIT.due("waiting(" + c + ")", x.waiting(c), -1);
            KIT.due("open(" + c + ")", x.open(c), false);
        }
    }

    private static void taking() {
        EdgeCache x = new EdgeCache(0);
        Kit.send(x, 2, "GET /\n\n");
        KIT.due("pending(2)", x.pending(2), 9);
        KIT.due("pending(0)", x.pending(0), 0);
        KIT.due("the first eight", x.out(2), 0x3430340a4c3a300aL);
        KIT.due("pending(2) then", x.pending(2), 1);
        KIT.due("the last one", x.out(2), 10L);
        KIT.due("nothing", x.out(2), 0L);
        KIT.due("pending(2) at the end", x.pending(2), 0);
        Kit.send(x, 2, "PUT /\nL:8\n\n\u00ff\u0080\u0081\u0082\u0083\u0084\u0085\u0001GET /x\n\nGET /x\n\nGET /\n\n");
        KIT.due("pending(2) with high bytes", x.pending(2), 56);
        for (int i = 0; i < 6; i++) {
            x.out(2);
        }
        KIT.due("eight high bytes", x.out(2), 0xff80818283848501L);
        KIT.due("pending(2) after them", x.pending(2), 0);
    }

    private static void order() {
        EdgeCache x = new EdgeCache(100);
        Kit.ask(x, 2, Kit.put("/a", "a", "s99", "A"));
        Kit.fetch(x, 0, "GET /a\n\n");
        Kit.send(x, 0, "GET /b\n\nGET /a\n\nGET /c\n\nX\n");
        KIT.due("waiting(0)", x.waiting(0), 4);
        KIT.due("pending(0)", x.pending(0), 0);
        KIT.due("open(0)", x.open(0), false);
        KIT.due("open(1)", x.open(1), true);
        x.origin(1);
        KIT.due("arrive(1)", x.arrive(1), 404);
        KIT.due("waiting(0) for the first", x.waiting(0), 4);
        x.origin(0);
        KIT.due("arrive(0)", x.arrive(0), 404);
        KIT.due("waiting(0) for none", x.waiting(0), 0);
        KIT.due("the answers in order", Kit.read(x, 0),
                Kit.bare(404) + "200\nE:1\nK:a\nP:s99\nA:0\nL:1\n\nA" + Kit.bare(404) + Kit.bare(400));
        KIT.due("open(0) stays false", x.open(0), false);
        KIT.due("pending(0) at the end", x.pending(0), 0);
    }
}
