import java.util.ArrayList;
import java.util.List;
import java.util.function.Supplier;

/**
 * All that can be seen of an object in some state. It is asked of new objects, as many as are needed: a question may
 * change what it is asked of, and none is asked more than its 512 calls.
 */
final class Picture {
    private final List<Long> all = new ArrayList<>();

    private Picture() {
    }

    static List<Long> of(Supplier<StoreStreams> made) {
        Picture picture = new Picture();
        picture.world(made.get());
        picture.causes(made.get());
        picture.thought(made.get());
        picture.rows(made.get());
        for (int sheet = 0; sheet <= 3; sheet++) picture.sheet(made.get(), sheet);
        picture.shelves(made.get());
        picture.tape(made.get());
        picture.onward(made.get());
        picture.kept(made.get());
        return picture.all;
    }

    private void add(long answer) {
        all.add(answer);
    }

    /** THINGS and the steps till now. */
    private void world(StoreStreams x) {
        for (int what = 0; what <= 5; what++) add(x.many(what));
        for (int what = 0; what <= 1; what++) add(x.fault(what));
        for (int what = 0; what <= 3; what++) add(x.sum(what));
        int steps = Math.min(x.many(1), 15);
        int count = x.many(0);
        for (int i = 0; i < count; i++) {
            for (int what = 0; what <= 3; what++) add(x.thing(i, what));
            add(x.value(i));
            for (int what = 0; what <= 1; what++) add(x.flow(i, what));
            for (int step = 0; step <= steps; step++) add(x.at(i, step));
        }
    }

    private void causes(StoreStreams x) {
        int count = x.many(0);
        for (int i = 0; i < count; i++) {
            add(x.moves(i));
            add(x.reached(i));
        }
        int rings = x.rings();
        add(rings);
        for (int i = 0; i < Math.min(rings, 20); i++) {
            for (int what = -1; what <= 6; what++) add(x.ring(i, what));
        }
    }

    private void thought(StoreStreams x) {
        add(x.rest(200));
        for (int what = 0; what <= 1; what++) add(x.swing(60, what));
        int count = x.many(0);
        for (int i = 0; i < count; i++) {
            if (x.thing(i, 0) != 5) continue;
            for (int j = 0; j < Math.min(count, 8); j++) {
                add(x.pull(i, 1, j, 0));
                add(x.pull(i, 5, j, 60));
                add(x.best(i, -2, 18, j, 7));
                for (int sheet = 0; sheet <= 3; sheet++) {
                    add(x.miss(j, sheet));
                    add(x.fit(i, 0, 5, j, sheet));
                }
            }
        }
    }

    private void rows(StoreStreams x) {
        int many = x.many(3);
        for (int k = 0; k < many; k++) {
            for (int what = 0; what <= 1; what++) add(x.row(k, what));
        }
        int count = x.many(0);
        for (int i = 0; i < count; i++) add(x.judge(i));
    }

    private void sheet(StoreStreams x, int sheet) {
        for (int sort = 0; sort <= 3; sort++) {
            for (int i = 0; i <= 40; i++) add(x.item(sheet, sort, i));
        }
    }

    private void shelves(StoreStreams x) {
        int many = x.many(5);
        for (int k = 0; k < many; k++) add(x.trace(k));
        for (int shelf = 0; shelf <= 3; shelf++) {
            for (int as = 0; as <= 13; as++) add(x.taken(shelf, as));
            for (int act = 0; act <= 3; act++) {
                add(x.act(shelf, act, 7));
                add(x.many(5));
            }
        }
    }

    private void tape(StoreStreams x) {
        add(x.read());
        world(x);
    }

    /** What EVENTS there are shows in the steps to come, and in those from begin() on. */
    private void onward(StoreStreams x) {
        int count = x.many(0);
        for (int round = 0; round <= 1; round++) {
            for (int step = x.many(1); step < 12; step++) {
                add(x.run(1));
                for (int i = 0; i < count; i++) add(x.value(i));
            }
            add(x.begin());
        }
    }

    private void kept(StoreStreams x) {
        add(x.back());
        world(x);
        add(x.rest(200));
    }
}
