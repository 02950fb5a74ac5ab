import java.lang.management.ManagementFactory;

/** All calls of a run live in one room: what 512 of the dearest calls make must stay small. */
public final class RoomTest {
    private static final int CALLS = 512;
    private static final long ROOM = 2_000_000;

    private interface Call {
        void on(KiteLamp lamp, int i);
    }

    public static void main(String[] args) {
        room("feed and sky", (lamp, i) -> Told.sky(lamp, "lamp 4;wind 1+2;"));
        room("kite", (lamp, i) -> lamp.kite(i % 6, i % 5));
        room("lamp", (lamp, i) -> lamp.lamp(i, i % 3));
        room("run", (lamp, i) -> lamp.run(100));
        room("nearest", (lamp, i) -> lamp.nearest(i % 100, 20, i % 8));
        room("fewest", (lamp, i) -> lamp.fewest(i % 100, 20, 3, 2));
        room("holds", (lamp, i) -> lamp.holds(30, 20, 999, 240));
        room("mayGo and needed", (lamp, i) -> lamp.needed(lamp.mayGo(20) % 40, 1));
        room("mean", (lamp, i) -> lamp.mean(240, 0));
        room("down", (lamp, i) -> lamp.down());
        room("notes", (lamp, i) -> lamp.fit(lamp.note(i, 20, 20) + lamp.fits()));
        room("lots", (lamp, i) -> lamp.lots(i, 20, 60, 20, 0));
        room("mark", (lamp, i) -> lamp.mark(i % 4, i % 3 == 0));
        Check.finish("RoomTest");
    }

    private static KiteLamp six() {
        StringBuilder sky = new StringBuilder("wind 15+high+gust;rule 20-long;lamp 30;gusts 9;");
        for (char name = 'a'; name <= 'f'; name++) {
            sky.append("kite ").append(name).append(" plain at 30 lift 5 least 9 long 1").append(name - 'a').append(';');
        }
        return Told.under(sky.toString());
    }

    private static void room(String name, Call call) {
        KiteLamp lamp = six();
        com.sun.management.ThreadMXBean threads = (com.sun.management.ThreadMXBean) ManagementFactory.getThreadMXBean();
        long id = Thread.currentThread().getId();
        call.on(lamp, 0);
        long before = threads.getThreadAllocatedBytes(id);
        for (int i = 0; i < CALLS; i++) {
            call.on(lamp, i);
        }
        long bytes = threads.getThreadAllocatedBytes(id) - before;
        Check.that(name + ": " + bytes + " bytes are few", bytes < ROOM);
    }
}
