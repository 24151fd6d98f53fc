/** Promises 1, 14 and 15: a new object, tag, clock. */
public final class NewObjectTest {
    private static final Kit KIT = new Kit();

    public static void main(String[] args) {
        everythingIsEmpty();
        capacities();
        largestCapacity();
        tags();
        clocks();
        KIT.end();
    }

    private static void everythingIsEmpty() {
        EdgeCache x = new EdgeCache(100);
        for (int c = 0; c < 3; c++) {
            KIT.due("open(" + c + ")", x.open(c), true);
            KIT.due("pending(" + c + ")", x.pending(c), 0);
            KIT.due("waiting(" + c + ")", x.waiting(c), 0);
            KIT.due("out(" + c + ")", x.out(c), 0L);
        }
        KIT.due("upstream(0)", x.upstream(0), 0);
        KIT.due("upstream(1)", x.upstream(1), 0);
        KIT.due("queue()", x.queue(), 0);
        KIT.due("stored()", x.stored(), 0);
        KIT.due("bytes()", x.bytes(), 0);
        KIT.due("tag()", x.tag(), 0);
        KIT.due("clock()", x.clock(), 0);
        KIT.due("no resource", Kit.ask(x, 2, "GET /\n\n"), Kit.bare(404));
    }

    /** Responses of 40 bytes each, for eight values of V. */
    private static int storedWith(int capacity, boolean inBytes) {
        EdgeCache x = new EdgeCache(capacity);
        Kit.ask(x, 2, Kit.put("/", "a", "s1234567", "12345678"));
        Kit.ask(x, 2, Kit.put("/", "b", "s1234567", "12345678"));
        for (int i = 1; i <= 8; i++) {
            Kit.fetch(x, i % 2, "GET /\nV:a" + i + "\n\n");
        }
        return inBytes ? x.bytes() : x.stored();
    }

    private static void capacities() {
        int[] capacities = {Integer.MIN_VALUE, -1, 0, 39, 40, 79, 80, 279, 280, 300, 301, 320, 5000, Integer.MAX_VALUE};
        int[] counts = {0, 0, 0, 0, 1, 1, 2, 6, 7, 7, 7, 7, 7, 7};
        for (int i = 0; i < capacities.length; i++) {
            KIT.due("stored() with capacity " + capacities[i], storedWith(capacities[i], false), counts[i]);
            KIT.due("bytes() with capacity " + capacities[i], storedWith(capacities[i], true), 40 * counts[i]);
        }
    }

    /** Seven responses of 40 bytes, and one of 20 or 21. */
    private static void largestCapacity() {
        for (int size = 20; size <= 21; size++) {
            EdgeCache x = new EdgeCache(1000);
            Kit.ask(x, 2, Kit.put("/", "a", "s1234567", "12345678"));
            Kit.ask(x, 2, Kit.put("/", "b", "s1234567", "12345678"));
            Kit.ask(x, 2, Kit.put("/x", "a", "", "1234".substring(0, size - 17)));
            for (int i = 1; i <= 7; i++) {
                Kit.fetch(x, 0, "GET /\nV:a" + i + "\n\n");
            }
            Kit.fetch(x, 1, "GET /x\n\n");
            KIT.due("bytes() with " + (280 + size) + " offered", x.bytes(), size == 20 ? 300 : 261);
        }
    }

    private static void tags() {
        EdgeCache x = new EdgeCache(0);
        Kit.ask(x, 2, Kit.put("/", "a", "", "one"));
        KIT.due("tag() after a new representation", x.tag(), 1);
        Kit.ask(x, 2, Kit.put("/", "a", "s9", "one"));
        KIT.due("tag() after the same body", x.tag(), 1);
        Kit.ask(x, 2, Kit.put("/", "b", "s9", "one"));
        KIT.due("tag() after a new letter", x.tag(), 2);
        Kit.ask(x, 2, Kit.put("/", "a", "s9", "two"));
        KIT.due("tag() after another body", x.tag(), 3);
        Kit.ask(x, 2, Kit.put("/", "z", "", "three"));
        KIT.due("tag() after a refused letter", x.tag(), 3);
        Kit.ask(x, 2, "DELETE /\n\n");
        KIT.due("tag() after DELETE", x.tag(), 3);
        Kit.ask(x, 2, Kit.put("/", "a", "", "two"));
        KIT.due("tag() is never given twice", x.tag(), 4);
    }

    private static void clocks() {
        EdgeCache x = new EdgeCache(0);
        x.pass(7);
        x.pass(0);
        x.pass(1000);
        KIT.due("clock()", x.clock(), 1007);
        x.pass(-1);
        x.pass(1001);
        x.pass(Integer.MIN_VALUE);
        KIT.due("clock() after wrong calls", x.clock(), 1007);
    }
}
