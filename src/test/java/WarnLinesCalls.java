/** Every call that only asks, with numbers within and beyond what they may be. */
final class WarnLinesCalls {
    private WarnLinesCalls() {
    }

    static long ask(WarnLines x) {
        long h = 0;
        for (int a = -1; a <= 20; a++) {
            h += x.count(a) + x.oddsOf(a) + x.fault(a) + x.over(a) + x.blamed(a) + x.smoothed(a) + x.leftOut();
            for (int b = -1; b <= 9; b++) {
                h += x.value(a, b) + x.base(a, b) + x.zone(a, b) + x.warns(b, a) + x.warned(a, b);
                h += x.of(a, b, 0) + x.sum(a, b, 1) + x.get(a, b, 3) + x.soon(a, b, 1, true, 0) + x.cheaper(a, b, 2);
            }
        }
        return h + x.digest() + x.write(0);
    }
}
