import java.lang.management.ManagementFactory;

/** All calls of a run live in one room: a call makes nothing, and a new object makes little. */
public final class RoomTest {
    private RoomTest() {
    }

    private static long made() {
        com.sun.management.ThreadMXBean bean = (com.sun.management.ThreadMXBean) ManagementFactory.getThreadMXBean();
        return bean.getCurrentThreadAllocatedBytes();
    }

    public static void main(String[] args) {
        CardDrawer[] some = new CardDrawer[100];
        long ahead = made();
        for (int i = 0; i < some.length; i++) {
            some[i] = new CardDrawer();
        }
        long each = (made() - ahead) / some.length;
        Due.due("a new object takes " + each + " bytes", each < 60000, true);
        CardDrawer x = some[0];
        everything(x);
        ahead = made();
        everything(x);
        long more = made() - ahead;
        Due.due("all calls take " + more + " bytes", more < 20000, true);
        Due.close("RoomTest");
    }

    private static void everything(CardDrawer x) {
        int sum = x.state(1);
        for (int i = 0; i < 14; i++) {
            sum += x.card(i % 12, i % 8, i % 6, i);
        }
        x.image(true);
        for (int round = 0; round < 20; round++) {
            x.set(0, 0, round);
            sum += x.ring(round % 12) + x.toss(1) + x.years(10);
            sum += x.does(round % 14, true) || x.does(round % 14, false) || x.undo() ? 1 : 0;
            x.feed(0x64757374, 0x20313b20, 0x20202020, 0x20202020, 0x20202020);
            sum += x.end(7) ? x.text(0) + x.fault(0) : 0;
            x.feed(0x70657273, 0x6f6e2031, 0x20627920, 0x303b2020, 0x20202020);
            sum += x.text(1) + x.text(2) + x.text(3) + x.text(4);
            sum += x.of(1, 8) + x.met(1) + x.called(1, 1) + x.book(round, 1) + x.goes(60, 0);
            sum += x.ahead(round % 13, 13) + x.dated(1, 0) + x.hands(1, 0) + x.led(0) + x.root(1) + x.tells(0);
            sum += x.hears(4, 0) + x.asks(round % 3, 1) + x.keeps(5, 0) + x.sorted(0) + x.apart() + x.seconds();
            sum += x.beside(1, 0) + x.note(round % 4, 1, true) + x.whose(0) + x.whose(1) + x.uses(0) + x.game(0);
            sum += x.look(5) + (x.undo() ? 1 : 0) + (x.image(round % 2 == 0) ? 1 : 0);
        }
        Due.due("something was answered", sum != 0, true);
    }
}
