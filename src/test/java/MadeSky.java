/** A sky whose catalogues are drawn a second time here, by numbers of 64 bits. */
final class MadeSky {
    private final String text;
    private final int[][] lights;
    private final int speed;
    private final int own;
    private final int err;
    private final int limit;
    private final int tries;
    private final int[] least = {9999, 9999, 9999, 9999};
    private final int[] greatest = {-9999, -9999, -9999, -9999};
    private long drawn;
    private int fastest = 0;
    private int leastRaw = 9999;

    MadeSky(int[][] lights, int speed, int own, int err, int limit, int tries) {
        this.lights = lights;
        this.speed = speed;
        this.own = own;
        this.err = err;
        this.limit = limit;
        this.tries = tries;
        StringBuilder s = new StringBuilder();
        for (int[] light : lights) {
            s.append("light ").append(light[0]).append(' ').append(light[1]).append(';');
        }
        s.append("speed ").append(speed).append(";own ").append(own).append(";err ").append(err);
        s.append(";limit ").append(limit).append(";tries ").append(tries).append(';');
        text = s.toString();
    }

    private int below(int n, int sort, int less) {
        drawn = drawn * 1103515245L + 12345L & 0xffffffffL;
        int number = (int) ((drawn >> 16) % n) - less;
        least[sort] = Math.min(least[sort], number);
        greatest[sort] = Math.max(greatest[sort], number);
        return number;
    }

    /** Makes the catalogue of a seed and holds every thing of it against what is drawn here. */
    void holds(int seed) {
        // a new one each time: an object is good for 512 calls
        LadderSky x = Edge.sky(text);
        x.make(0, -1, seed);
        drawn = seed & 0xffffffffL;
        int all = 0;
        for (int[] light : lights) {
            all += light[1];
        }
        int thing = 0;
        for (int i = 0; i < tries; i++) {
            int far = below(200, 0, -1);
            int bright = brightness(below(all, 1, 0));
            int more = below(2 * own + 1, 2, own);
            int wrong = below(2 * err + 1, 3, err);
            if (10000 * bright >= limit * far * far) {
                see(x, thing, far, more, wrong);
                thing++;
            }
        }
        Due.due("things by seed " + seed, x.about(0, 1), thing);
        Due.due("rungs by seed " + seed, x.about(0, 0), 2);
        Due.due("stones by seed " + seed, x.about(0, 2), 0);
    }

    private int brightness(int place) {
        int rest = place;
        for (int[] light : lights) {
            if (rest < light[1]) {
                return light[0];
            }
            rest -= light[1];
        }
        throw new IllegalStateException("no light at " + place);
    }

    private void see(LadderSky x, int thing, int far, int more, int wrong) {
        String name = "thing " + thing + " of " + text;
        int away = speed * far / 100 + more;
        fastest = Math.max(fastest, Math.abs(away));
        Due.due("speed of " + name, x.speed(0, thing), away);
        Due.due("near raw of " + name, x.entry(0, thing, 0, false), far < 50 ? far : -1);
        int raw = Math.max(1, 2 * far * (100 + wrong) / 100);
        leastRaw = Math.min(leastRaw, raw);
        Due.due("far raw of " + name, x.entry(0, thing, 1, false), raw);
        Due.due("year of " + name, x.entry(0, thing, 1, true), 0);
    }

    int things(int seed) {
        LadderSky x = Edge.sky(text);
        x.make(0, -1, seed);
        return x.about(0, 1);
    }

    /** A seed by which a thing so far off is told so wrongly; -1 if none is found. */
    int seedFor(int far, int wrong) {
        for (int seed = 0; seed < 1000000; seed++) {
            drawn = seed;
            for (int i = 0; i < tries; i++) {
                boolean there = below(200, 0, -1) == far;
                below(1, 1, 0);
                below(2 * own + 1, 2, own);
                if (below(2 * err + 1, 3, err) == wrong && there) {
                    return seed;
                }
            }
        }
        return -1;
    }

    int least(int sort) {
        return least[sort];
    }

    int greatest(int sort) {
        return greatest[sort];
    }

    int fastest() {
        return fastest;
    }

    int leastRaw() {
        return leastRaw;
    }
}
