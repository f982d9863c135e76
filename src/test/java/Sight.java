/** All that can be seen of an object, as one text. The object is used up by it: marks and tape are looked at by going back and reading. */
final class Sight {
    private Sight() {
    }

    static String of(StairWays x) {
        StringBuilder all = new StringBuilder();
        int top = x.count(0);
        for (int what = 0; what < 8; what++) {
            all.append(" count").append(what).append('=').append(x.count(what));
        }
        for (int step = 0; step <= top; step++) {
            all.append(" s").append(step).append('=').append(x.step(step, 0)).append('/').append(x.step(step, 1));
        }
        for (int stride = 1; stride <= 12; stride++) {
            all.append(" w").append(stride).append('=').append(x.weight(stride));
        }
        all.append(" lawful=").append(x.lawful()).append(" many=").append(x.many()).append(" rank=").append(x.rank());
        all.append(" fit=").append(x.fit()).append(" fewest=").append(x.fewest()).append(" game=").append(x.game());
        all.append(" two=").append(x.two()).append(" crowd=").append(x.crowd(1000003, top)).append(" weary=").append(x.weary(1000003));
        all.append(" plain=").append(x.plain(123456, 9999)).append(" nth=").append(x.nth(0, 0)).append(" climb=").append(x.climb(17, 1));
        here(x, all);
        for (int mark = 0; mark < 4; mark++) {
            boolean laid = x.mark(mark, true);
            all.append(" mark").append(mark).append('=').append(laid);
            if (laid) {
                here(x, all);
            }
        }
        all.append(" read=").append(x.stair()).append(" steps=").append(x.count(0)).append(" strides=").append(x.count(5));
        return all.toString();
    }

    /** How one came to where one is by hand, and the dust. */
    private static void here(StairWays x, StringBuilder all) {
        all.append(" by");
        for (int i = 0; i < x.count(2); i++) {
            all.append(' ').append(x.taken(i));
        }
        all.append(" dust");
        for (int step = 0; step <= x.count(0); step++) {
            all.append(' ').append(x.step(step, 2));
        }
    }
}
