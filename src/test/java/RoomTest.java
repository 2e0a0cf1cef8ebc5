import com.sun.management.ThreadMXBean;
import java.lang.management.ManagementFactory;

/** No call makes anything that stays or goes: all rows are made with the object. */
public final class RoomTest {
    private static final long MOST_FOR_ONE = 120_000;

    private RoomTest() {
    }

    public static void main(String[] args) {
        ThreadMXBean bean = (ThreadMXBean) ManagementFactory.getThreadMXBean();
        BronzeKing king = new BronzeKing();
        callAll(king);
        long before = bean.getCurrentThreadAllocatedBytes();
        long empty = bean.getCurrentThreadAllocatedBytes() - before;
        before = bean.getCurrentThreadAllocatedBytes();
        for (int i = 0; i < 3; i++) {
            callAll(king);
        }
        long byCalls = bean.getCurrentThreadAllocatedBytes() - before - empty;
        // The machine itself may make a little while it compiles what runs often.
        Due.is("bytes made by calls: " + byCalls, byCalls < 2000, true);
        before = bean.getCurrentThreadAllocatedBytes();
        new BronzeKing();
        long byObject = bean.getCurrentThreadAllocatedBytes() - before - empty;
        Due.is("bytes made by an object: " + byObject, byObject < MOST_FOR_ONE, true);
        Due.end();
    }

    private static void callAll(BronzeKing king) {
        feedMap(king);
        king.map(40);
        king.feed(0x63312831, 0x3D31293B, 0x6539392D, 0x77283D3D, 0);
        king.law(8);
        king.feed(0x63312831, 0x3D31293B, 0x6539392D, 0x77287821, 0);
        king.law(19);
        king.feed(0x63312831, 0x3D31293B, 0x6539392D, 0x7728783C, 0x35290000);
        king.law(18);
        king.feed(0x352D3B37, 0x2D000000, 0, 0, 0);
        king.notes(5);
        king.square(1, 1);
        for (int k = 1; k <= 9; k++) {
            king.door(k, k, k % 8);
        }
        king.days(30);
        king.tried(30, 0);
        askAll(king);
    }

    private static void feedMap(BronzeKing king) {
        king.feed(908998179, 792011566, 908275510, 775299887, 958608163);
        king.feed(792273715, 590297379, 857943865, 590553903, 958608163);
    }

    private static void askAll(BronzeKing king) {
        for (int i = 0; i < 7; i++) {
            king.placeIs(1, 1, i);
            king.likely(i, 0);
            king.watch(i, 0);
            king.walk(i);
            king.calls(60, i);
            king.streets(i);
            king.count(i);
            king.benches(2, i);
        }
        king.sure(99);
        king.worn();
        king.far(60);
        king.old(5, 5);
        king.barred(11, 7, 1);
        king.barred(11, 7, 0);
        king.chase(13, 0);
        king.feed(0, 0, 0, 0, 0);
        king.feed(0, 0, 0, 0, 0);
        king.lovers(4, 0);
        king.feed(0, 0, 0, 0, 0);
        king.feed(0, 0, 0, 0, 0);
        king.pigeons(0);
        king.feed(0, 0, 0, 0, 0);
        king.check(0, 12);
        king.seed(5);
        king.keep();
        king.undo();
    }
}
