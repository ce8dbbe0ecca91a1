import java.lang.management.ManagementFactory;
import java.util.Random;

/** All calls of one run live in one room: a RootTower is small, and its calls make nothing but the exceptions that they throw. */
public final class RoomTest {
    private static final com.sun.management.ThreadMXBean BEAN =
        (com.sun.management.ThreadMXBean) ManagementFactory.getThreadMXBean();

    private static long bytes() {
        return BEAN.getThreadAllocatedBytes(Thread.currentThread().getId());
    }

    public static void main(String[] args) {
        life(new RootTower(), 0);
        long before = bytes();
        RootTower tower = new RootTower();
        long made = bytes() - before;
        before = bytes();
        life(tower, 1);
        long used = bytes() - before;
        System.out.println("RoomTest: an object is " + made + " bytes, a life of calls makes " + used);
        if (made > 100000 || used > 2000) {
            System.exit(1);
        }
    }

    /** Every call that answers, with all that it may be asked. */
    private static void life(RootTower t, int seed) {
        Random random = new Random(seed);
        int[] words = {0x7475726e, 0x69702039, 0x20312030, 0x3b74756e, 0x65203131, 0x3b6e6f74, 0x65203135, 0x2d287369, 0x7a652d68, 0x6f6c6c6f,
            0x77292f32, 0x3b737765, 0x64652039, 0x20302033, 0x3b6d6574, 0x686f6420, 0x31203220, 0x353b6265, 0x65742036, 0x20303b20};
        for (int i = 0; i < 20; i += 5) {
            t.feed(words[i], words[i + 1], words[i + 2], words[i + 3], words[i + 4]);
        }
        if (t.tower(80) != 0) {
            throw new IllegalStateException("fault at " + t.fault());
        }
        for (int i = 0; i < 10; i++) {
            acts(t, random);
            questions(t, random);
        }
    }

    private static void acts(RootTower t, Random random) {
        t.days(random.nextInt(4));
        t.hang(random.nextInt(3), random.nextInt(6));
        t.hollow(random.nextInt(3), 1);
        t.take(random.nextInt(3));
        t.alter(random.nextInt(3), random.nextInt(32));
        t.eat(random.nextInt(3));
        t.undo();
        t.undo();
        t.hear(random.nextInt(9), random.nextInt(16), random.nextBoolean());
        t.image();
        t.hang(0, 0);
        t.restore();
        t.hang(0, 5);
        t.hang(1, 4);
    }

    private static void questions(RootTower t, Random random) {
        int root = random.nextInt(3);
        int note = random.nextInt(16);
        t.then(root, 60);
        t.goes(root);
        t.rings(60);
        t.last();
        t.soft();
        t.order(0);
        t.row(999);
        t.at(999, 1);
        t.length();
        t.isTrue();
        t.longer();
        t.fit(-1);
        t.fit(0);
        t.keepers();
        t.earliest();
        t.eaten(0);
        t.next(1);
        t.game(0, 1, 0);
        t.towers(note, 60, 2);
        t.needed(root, note);
        t.grown(root, note);
        t.scale(0);
        t.mouth(1);
        t.leads(root);
        t.meets(0, 1);
        t.without(root);
        t.often(note);
        t.spare();
        t.count(10);
        t.root(root, 4);
        t.hook(3);
        t.tune(0);
        t.change(0);
        t.fault();
        t.forget();
    }
}
