import java.lang.management.ManagementFactory;

/** A run of 512 calls lives in one room of 7.3 million fields and elements: no call may make much. */
public final class RoomTest {
    private static final Check CHECK = new Check();
    private static final com.sun.management.ThreadMXBean BEAN =
        (com.sun.management.ThreadMXBean) ManagementFactory.getThreadMXBean();

    public static void main(String[] args) {
        String loops = "&a|&b|&c|&d|*(1;1;1)|*(1;1)|*(1;1;1;1;1)|@s(*(?s(!x)(0);1;!s))";
        String text = "A(abcd)xy{" + loops + "}B(abcd)xy{" + loops + "}";
        room("searches", text, 0, 300_000);
        room("comparisons", text, 1, 300_000);
        room("ticks", text, 2, 300_000);
        room("modules", "A(a)x{" + "&a;".repeat(160) + "0}", 3, 1_500_000);
        room("instances", "A(a)x{0}", 4, 300_000);
        CHECK.end();
    }

    /** Eight bytes an element and some for each object: far below the room is far below it by any count. */
    private static void room(String what, String text, int kind, long most) {
        calls(text, kind);
        long before = BEAN.getThreadAllocatedBytes(Thread.currentThread().getId());
        calls(text, kind);
        long made = BEAN.getThreadAllocatedBytes(Thread.currentThread().getId()) - before;
        System.out.println(what + ": " + made + " bytes");
        CHECK.due(what + " made " + made + " bytes, too many", made > most, false);
    }

    private static void calls(String text, int kind) {
        SignalHouse house = new SignalHouse();
        int left = 512;
        if (kind != 3) {
            left -= text.length() / 8 + 1 + Math.abs(Check.load(house, text));
            house.make(0);
        }
        while (left > 0) {
            left -= kind == 3 ? text.length() / 8 + 2 : 1;
            call(house, text, kind, left);
        }
    }

    private static void call(SignalHouse house, String text, int kind, int left) {
        switch (kind) {
            case 0:
                CHECK.due("search", left % 20 == 0 ? house.search(0, -1, 300) : 2, 2);
                break;
            case 1:
                CHECK.due("differ", left % 20 == 0 ? house.differ(0, 1, 300) : 2, 2);
                break;
            case 2:
                CHECK.due("tick", house.tick(0, left & 15), 0);
                break;
            case 3:
                CHECK.due("module", Check.load(house, text), -1);
                break;
            default:
                house.make(0);
                break;
        }
    }
}
