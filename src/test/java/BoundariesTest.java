import java.util.Set;
import java.util.TreeSet;

/** All boundary cases; each promise must have some. */
public final class BoundariesTest {
    private BoundariesTest() {
    }

    public static void main(String[] args) {
        Boundaries[] all = {new TapeBoundaries(), new HouseBoundaries(), new FloorBoundaries(), new RoomBoundaries(),
            new PlanBoundaries(), new JudgedBoundaries(), new OrderBoundaries(), new WayBoundaries(),
            new ImageBoundaries(), new RefusalBoundaries()};
        Due due = new Due();
        Set<Integer> promises = new TreeSet<>();
        int tests = 0;
        for (Boundaries some : all) {
            var theirs = some.run(due);
            tests += theirs.size();
            promises.addAll(theirs);
        }
        for (int promise = 1; promise <= 25; promise++) {
            if (!promises.contains(promise)) due.fails("no boundary of promise " + promise);
        }
        System.out.println(tests + " boundaries");
        due.end();
    }
}
