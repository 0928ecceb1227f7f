import java.math.BigInteger;
import java.util.ArrayList;
import java.util.Arrays;
import java.util.Comparator;
import java.util.HashMap;
import java.util.List;
import java.util.Map;
import java.util.TreeMap;
import java.util.TreeSet;

/**
 * The document once more, sentence by sentence, with the library's lists and great numbers and no care for speed:
 * ModelTest holds LadderSky against it. None is null here; each call turns it into the number that the document names.
 */
final class PlainSky {
    static final class Token {
        String text;
        int place;

        boolean isNumber() {
            return text.matches("[0-9]{1,4}");
        }

        int value() {
            return Integer.parseInt(text);
        }
    }

    static final class Cat {
        List<Integer> on = new ArrayList<>();
        List<Integer> scale = new ArrayList<>();
        List<Integer> speeds = new ArrayList<>();
        List<Integer> stones = new ArrayList<>();
        Map<List<Integer>, int[]> entries = new HashMap<>();

        Cat copy() {
            Cat c = new Cat();
            c.on.addAll(on);
            c.scale.addAll(scale);
            c.speeds.addAll(speeds);
            c.stones.addAll(stones);
            c.entries.putAll(entries);
            return c;
        }

        int step(int rung) {
            return on.get(rung) == null ? 0 : 1 + step(on.get(rung));
        }

        Integer raw(int thing, int rung, int year) {
            int[] e = entries.get(List.of(thing, rung));
            return e == null || e[1] > year ? null : Integer.valueOf(e[0]);
        }
    }

    static final class Hou {
        TreeSet<Integer> uses = new TreeSet<>();
        String way = "first";
        int[] leans = new int[6];
        TreeSet<Integer> cast = new TreeSet<>();
        List<Map.Entry<String, Integer>> rules = new ArrayList<>();

        Hou copy() {
            Hou h = new Hou();
            h.uses.addAll(uses);
            h.way = way;
            h.leans = leans.clone();
            h.cast.addAll(cast);
            h.rules.addAll(rules);
            return h;
        }
    }

    static final class Heaven {
        List<int[]> lights = new ArrayList<>();
        Map<String, Integer> set = new HashMap<>(Map.of("speed", 0, "own", 0, "err", 0, "limit", 1, "tries", 24));

        Heaven copy() {
            Heaven s = new Heaven();
            s.lights.addAll(lights);
            s.set.putAll(set);
            return s;
        }
    }

    static final class State {
        List<Byte> tape = new ArrayList<>();
        int fault = 0;
        int place = -1;
        List<Cat> cats = new ArrayList<>();
        List<Hou> houses = new ArrayList<>();
        List<Heaven> skies = new ArrayList<>();
        List<int[]> sayings = new ArrayList<>();

        State copy() {
            State s = new State();
            s.tape.addAll(tape);
            s.fault = fault;
            s.place = place;
            cats.forEach(c -> s.cats.add(c.copy()));
            houses.forEach(h -> s.houses.add(h.copy()));
            skies.forEach(k -> s.skies.add(k.copy()));
            s.sayings.addAll(sayings);
            return s;
        }
    }

    static final class Frac implements Comparable<Frac> {
        final BigInteger above;
        final BigInteger below;

        Frac(BigInteger above, BigInteger below) {
            this.above = above;
            this.below = below;
        }

        Frac plus(Frac o) {
            return new Frac(above.multiply(o.below).add(o.above.multiply(below)), below.multiply(o.below));
        }

        @Override
        public int compareTo(Frac o) {
            return above.multiply(o.below).compareTo(o.above.multiply(below));
        }
    }

    private static final Map<String, List<String>> CATALOGUE = Map.of("base", List.of("#"), "on", List.of("#"),
        "away", List.of("#"), "toward", List.of("#"), "stone", List.of("#"), "has", List.of("#", "#", "#", "#"));
    private static final Map<String, List<String>> HOUSE = Map.of("use", List.of("#"), "way", List.of("first|mean|last"),
        "lean", List.of("#", "up|down", "#"), "cast", List.of("#"),
        "throw", List.of("slower|faster|nearer|farther|odd", "#"));
    private static final Map<String, List<String>> SKY = Map.of("light", List.of("#", "#"), "speed", List.of("#"),
        "own", List.of("#"), "err", List.of("#"), "limit", List.of("#"), "tries", List.of("#"));

    private State now = new State();
    private final State[] images = new State[3];

    // ---- texts

    int feed(int a, int b, int c, int d, int e) {
        if (now.tape.size() > 480) {
            return -1;
        }
        for (int number : new int[] {a, b, c, d, e}) {
            for (byte x : java.nio.ByteBuffer.allocate(4).putInt(number).array()) {
                now.tape.add(x);
            }
        }
        return now.tape.size();
    }

    int end(int n) {
        if (n < 0 || n > now.tape.size()) {
            return -1;
        }
        now.tape = new ArrayList<>(now.tape.subList(0, n));
        return n;
    }

    private <T> int placeFor(List<T> all, int most, int at) {
        if (at == -1 && all.size() < most) {
            return all.size();
        }
        return at >= 0 && at < all.size() ? at : -2;
    }

    private <T> int put(List<T> all, int at, T one) {
        if (at == all.size()) {
            all.add(one);
        } else {
            all.set(at, one);
        }
        return at;
    }

    int text(int sort, int at) {
        StringBuilder chars = new StringBuilder();
        now.tape.forEach(b -> chars.append((char) (b & 255)));
        now.tape = new ArrayList<>();
        now.fault = 0;
        now.place = -1;
        int where = sort == 0 ? placeFor(now.cats, 3, at) : sort == 1 ? placeFor(now.houses, 6, at)
            : sort == 2 ? placeFor(now.skies, 3, at) : -2;
        if (where < 0) {
            return -2;
        }
        String s = chars.toString();
        List<List<Token>> lines = lines(s, sort == 0 ? CATALOGUE : sort == 1 ? HOUSE : SKY);
        if (lines == null) {
            return -1;
        }
        TreeSet<List<Integer>> faults = new TreeSet<>(Comparator.<List<Integer>>comparingInt(f -> f.get(0))
            .thenComparingInt(f -> f.get(1)));
        Cat cat = new Cat();
        Hou hou = new Hou();
        Heaven sky = new Heaven();
        for (List<Token> line : lines) {
            if (sort == 0) {
                tellCat(cat, line, faults);
            } else if (sort == 1) {
                tellHouse(hou, line, faults);
            } else {
                tellSky(sky, line, faults);
            }
        }
        if (sort == 2 && faults.isEmpty() && sky.lights.isEmpty()) {
            faults.add(List.of(s.length(), 4));
        }
        if (!faults.isEmpty()) {
            now.place = faults.first().get(0);
            now.fault = faults.first().get(1);
            return -1;
        }
        return sort == 0 ? put(now.cats, where, cat) : sort == 1 ? put(now.houses, where, hou)
            : put(now.skies, where, sky);
    }

    /** The lines, each without its mark; null behind fault 1. */
    private List<List<Token>> lines(String s, Map<String, List<String>> grammar) {
        List<List<Token>> all = new ArrayList<>();
        List<Token> line = new ArrayList<>();
        java.util.regex.Matcher m = java.util.regex.Pattern.compile("[a-z]+|[0-9]+|(?s:.)").matcher(s);
        while (m.find()) {
            String t = m.group();
            if (t.equals(" ") || t.equals("\n")) {
                continue;
            }
            Token token = new Token();
            token.text = t;
            token.place = m.start();
            boolean fits;
            if (line.isEmpty()) {
                fits = grammar.containsKey(t);
            } else {
                List<String> want = grammar.get(line.get(0).text);
                int i = line.size() - 1;
                if (i == want.size()) {
                    fits = t.equals(";");
                } else {
                    fits = want.get(i).equals("#") ? token.isNumber() : t.matches(want.get(i));
                }
            }
            if (!fits) {
                now.fault = 1;
                now.place = m.start();
                return null;
            }
            if (t.equals(";")) {
                all.add(line);
                line = new ArrayList<>();
            } else {
                line.add(token);
            }
        }
        if (!line.isEmpty()) {
            now.fault = 1;
            now.place = s.length();
            return null;
        }
        return all;
    }

    private void check(Token t, int low, int high, TreeSet<List<Integer>> faults) {
        if (t.value() < low || t.value() > high) {
            faults.add(List.of(t.place, 2));
        }
    }

    private void room(int have, int most, Token first, TreeSet<List<Integer>> faults) {
        if (have >= most) {
            faults.add(List.of(first.place, 3));
        }
    }

    private void tellCat(Cat c, List<Token> line, TreeSet<List<Integer>> faults) {
        Token first = line.get(0);
        int n = line.get(1).value();
        switch (first.text) {
            case "base", "on" -> {
                room(c.on.size(), 6, first, faults);
                boolean base = first.text.equals("base");
                check(line.get(1), base ? 1 : 0, base ? 9999 : c.on.size() - 1, faults);
                c.on.add(base ? null : n);
                c.scale.add(base ? n : 0);
            }
            case "away", "toward" -> {
                room(c.speeds.size(), 24, first, faults);
                c.speeds.add(first.text.equals("away") ? n : -n);
            }
            case "stone" -> {
                room(c.stones.size(), 4, first, faults);
                check(line.get(1), 1, 9999, faults);
                c.stones.add(n);
            }
            default -> {
                check(line.get(1), 0, c.speeds.size() - 1, faults);
                check(line.get(2), 0, c.on.size() - 1, faults);
                check(line.get(3), 1, 9999, faults);
                check(line.get(4), 0, 99, faults);
                c.entries.put(List.of(n, line.get(2).value()), new int[] {line.get(3).value(), line.get(4).value()});
            }
        }
    }

    private void tellHouse(Hou h, List<Token> line, TreeSet<List<Integer>> faults) {
        switch (line.get(0).text) {
            case "use" -> {
                check(line.get(1), 0, 5, faults);
                h.uses.add(line.get(1).value());
            }
            case "way" -> h.way = line.get(1).text;
            case "cast" -> {
                check(line.get(1), 0, 23, faults);
                h.cast.add(line.get(1).value());
            }
            case "lean" -> {
                check(line.get(1), 0, 5, faults);
                check(line.get(3), 0, 50, faults);
                if (faults.isEmpty()) {
                    int by = line.get(3).value();
                    h.leans[line.get(1).value()] = line.get(2).text.equals("up") ? by : -by;
                }
            }
            default -> {
                room(h.rules.size(), 8, line.get(0), faults);
                if (line.get(1).text.equals("odd")) {
                    check(line.get(2), 1, 9, faults);
                }
                h.rules.add(Map.entry(line.get(1).text, line.get(2).value()));
            }
        }
    }

    private void tellSky(Heaven s, List<Token> line, TreeSet<List<Integer>> faults) {
        String first = line.get(0).text;
        if (first.equals("light")) {
            room(s.lights.size(), 6, line.get(0), faults);
            check(line.get(1), 1, 999, faults);
            check(line.get(2), 1, 9, faults);
            s.lights.add(new int[] {line.get(1).value(), line.get(2).value()});
            return;
        }
        int[] from = first.equals("speed") ? new int[] {0, 1000} : first.equals("own") ? new int[] {0, 999}
            : first.equals("err") ? new int[] {0, 50} : first.equals("limit") ? new int[] {1, 9999} : new int[] {1, 24};
        check(line.get(1), from[0], from[1], faults);
        s.set.put(first, line.get(1).value());
    }

    int fault(int what) {
        return what == 0 ? now.fault : what == 1 ? now.place : -1;
    }

    // ---- what is told

    private static <T> T at(List<T> all, int i) {
        return i >= 0 && i < all.size() ? all.get(i) : null;
    }

    private static boolean within(int x, int low, int high) {
        return x >= low && x <= high;
    }

    private static int bits(Iterable<Integer> set) {
        int bits = 0;
        for (int i : set) {
            bits += 1 << i;
        }
        return bits;
    }

    int about(int catalogue, int what) {
        Cat c = at(now.cats, catalogue);
        if (c == null) {
            return -1;
        }
        if (within(what, 0, 3)) {
            return new int[] {c.on.size(), c.speeds.size(), c.stones.size(), c.entries.size()}[what];
        }
        if (within(what, 10, 9 + c.on.size())) {
            Integer on = c.on.get(what - 10);
            return on == null ? 100 + c.scale.get(what - 10) : on;
        }
        return within(what, 20, 19 + c.stones.size()) ? c.stones.get(what - 20) : -1;
    }

    int speed(int catalogue, int thing) {
        Cat c = at(now.cats, catalogue);
        return c == null || at(c.speeds, thing) == null ? -10000 : c.speeds.get(thing);
    }

    int entry(int catalogue, int thing, int rung, boolean year) {
        Cat c = at(now.cats, catalogue);
        int[] e = c == null ? null : c.entries.get(List.of(thing, rung));
        return e == null ? -1 : e[year ? 1 : 0];
    }

    boolean has(int catalogue, int thing, int rung, int raw, int year) {
        Cat c = at(now.cats, catalogue);
        if (c == null || at(c.speeds, thing) == null || !within(rung, 0, c.on.size() - 1) || !within(raw, 1, 9999)
            || !within(year, 0, 99)) {
            return false;
        }
        c.entries.put(List.of(thing, rung), new int[] {raw, year});
        return true;
    }

    boolean lean(int house, int rung, int percent) {
        Hou h = at(now.houses, house);
        if (h == null || !within(rung, 0, 5) || !within(percent, -50, 50)) {
            return false;
        }
        h.leans[rung] = percent;
        return true;
    }

    boolean cast(int house, int thing, boolean out) {
        Hou h = at(now.houses, house);
        if (h == null || !within(thing, 0, 23)) {
            return false;
        }
        return out ? h.cast.add(thing) : h.cast.remove(thing);
    }

    int of(int house, int what) {
        Hou h = at(now.houses, house);
        if (h == null) {
            return -100;
        }
        if (within(what, 10, 15)) {
            return h.leans[what - 10];
        }
        return switch (what) {
            case 0 -> bits(h.uses);
            case 1 -> List.of("first", "mean", "last").indexOf(h.way);
            case 2 -> bits(h.cast);
            case 3 -> h.rules.size();
            default -> -100;
        };
    }

    // ---- the ladder, the fars, the line

    private static BigInteger big(long x) {
        return BigInteger.valueOf(x);
    }

    private static Long scaleOf(Cat c, Hou h, int year, int rung) {
        BigInteger s;
        if (c.on.get(rung) == null) {
            s = big(c.scale.get(rung));
        } else {
            int other = c.on.get(rung);
            Long otherScale = scaleOf(c, h, year, other);
            long fars = 0;
            long raws = 0;
            for (int t = 0; t < c.speeds.size(); t++) {
                Integer otherRaw = c.raw(t, other, year);
                Integer raw = c.raw(t, rung, year);
                if (otherRaw != null && raw != null && !h.cast.contains(t)) {
                    fars += otherScale == null ? 0 : farWith(otherRaw, otherScale);
                    raws += raw;
                }
            }
            if (raws == 0 || otherScale == null) {
                return null;
            }
            s = big(1000).multiply(big(fars)).divide(big(raws));
        }
        return s.multiply(big(100 + h.leans[rung])).divide(big(100)).min(big(9999999)).longValueExact();
    }

    private static Long farBy(Cat c, Hou h, int year, int thing, int rung) {
        Integer raw = c.raw(thing, rung, year);
        Long s = raw == null ? null : scaleOf(c, h, year, rung);
        return s == null ? null : Long.valueOf(farWith(raw, s));
    }

    private static long farWith(long raw, long s) {
        return Math.min(9999999, raw * s / 1000);
    }

    private static Long farOf(Cat c, Hou h, int year, int thing, TreeSet<Integer> uses, String way) {
        List<Integer> by = new ArrayList<>();
        for (int r : uses) {
            if (r < c.on.size() && farBy(c, h, year, thing, r) != null) {
                by.add(r);
            }
        }
        if (by.isEmpty() || h.cast.contains(thing)) {
            return null;
        }
        if (way.equals("mean")) {
            long sum = 0;
            for (int r : by) {
                sum += farBy(c, h, year, thing, r);
            }
            return sum / by.size();
        }
        by.sort(Comparator.<Integer>comparingInt(r -> c.step(r)).thenComparingInt(r -> r));
        return farBy(c, h, year, thing, by.get(way.equals("first") ? 0 : by.size() - 1));
    }

    private static TreeMap<Integer, Long> fars(Cat c, Hou h, int year) {
        TreeMap<Integer, Long> fars = new TreeMap<>();
        for (int t = 0; t < c.speeds.size(); t++) {
            Long far = farOf(c, h, year, t, h.uses, h.way);
            if (far != null) {
                fars.put(t, far);
            }
        }
        for (Map.Entry<String, Integer> rule : h.rules) {
            int size = rule.getValue();
            switch (rule.getKey()) {
                case "slower" -> fars.keySet().removeIf(t -> Math.abs(c.speeds.get(t)) < size);
                case "faster" -> fars.keySet().removeIf(t -> Math.abs(c.speeds.get(t)) > size);
                case "nearer" -> fars.values().removeIf(d -> d < size);
                case "farther" -> fars.values().removeIf(d -> d > size);
                default -> {
                    for (int i = 0; i < size; i++) {
                        Integer odd = oddOf(c, fars);
                        if (odd != null) {
                            fars.remove(odd);
                        }
                    }
                }
            }
        }
        return fars;
    }

    private static Long divided(BigInteger above, BigInteger below) {
        return below.signum() == 0 ? null : Long.valueOf(big(1000).multiply(above).divide(below).longValueExact());
    }

    /** Sums of n, v, d, vv, vd, dd. */
    private static BigInteger[] sums(Cat c, Map<Integer, Long> fars) {
        BigInteger[] s = new BigInteger[6];
        Arrays.fill(s, BigInteger.ZERO);
        fars.forEach((t, far) -> {
            BigInteger v = big(c.speeds.get(t));
            BigInteger d = big(far);
            BigInteger[] one = {BigInteger.ONE, v, d, v.multiply(v), v.multiply(d), d.multiply(d)};
            for (int i = 0; i < 6; i++) {
                s[i] = s[i].add(one[i]);
            }
        });
        return s;
    }

    private static Long hOf(Cat c, Map<Integer, Long> fars) {
        BigInteger[] s = sums(c, fars);
        return divided(s[4], s[5]);
    }

    private static Long hOf(Cat c, Hou h, int year) {
        return hOf(c, fars(c, h, year));
    }

    private static TreeMap<Integer, Long> but(Map<Integer, Long> fars, int thing) {
        TreeMap<Integer, Long> rest = new TreeMap<>(fars);
        rest.remove(thing);
        return rest;
    }

    /** H without each thing that has one. */
    private static TreeMap<Integer, Long> withouts(Cat c, Map<Integer, Long> fars) {
        TreeMap<Integer, Long> all = new TreeMap<>();
        for (int t : fars.keySet()) {
            Long h = hOf(c, but(fars, t));
            if (h != null) {
                all.put(t, h);
            }
        }
        return all;
    }

    private static long leftOf(long v, long h, long d) {
        return Math.max(-999999, Math.min(999999, v - h * d / 1000));
    }

    private static long spreadOf(Cat c, Map<Integer, Long> fars, long h) {
        long sum = 0;
        for (Map.Entry<Integer, Long> e : fars.entrySet()) {
            long left = leftOf(c.speeds.get(e.getKey()), h, e.getValue());
            sum += left * left;
        }
        return sum;
    }

    /** The least key of those with the least value. */
    private static Integer least(TreeMap<Integer, Long> of) {
        return of.entrySet().stream().min(Map.Entry.<Integer, Long>comparingByValue()
            .thenComparing(Map.Entry.comparingByKey())).map(Map.Entry::getKey).orElse(null);
    }

    private static Integer greatest(TreeMap<Integer, Long> of) {
        TreeMap<Integer, Long> turned = new TreeMap<>();
        of.forEach((k, v) -> turned.put(k, -v));
        return least(turned);
    }

    private static Integer oddOf(Cat c, Map<Integer, Long> fars) {
        TreeMap<Integer, Long> spreads = new TreeMap<>();
        withouts(c, fars).forEach((t, h) -> spreads.put(t, spreadOf(c, but(fars, t), h)));
        return least(spreads);
    }

    private static Long widthOf(Cat c, Map<Integer, Long> fars) {
        TreeMap<Integer, Long> all = withouts(c, fars);
        return all.isEmpty() ? null : Long.valueOf(java.util.Collections.max(all.values())
            - java.util.Collections.min(all.values()));
    }

    private boolean none(int catalogue, int house, int year) {
        return at(now.cats, catalogue) == null || at(now.houses, house) == null || !within(year, 0, 99);
    }

    private boolean noRung(int catalogue, int rung) {
        return at(now.cats, catalogue) == null || !within(rung, 0, now.cats.get(catalogue).on.size() - 1);
    }

    private static long or(Long x, long none) {
        return x == null ? none : x;
    }

    private static int orNone(Integer x) {
        return x == null ? -1 : x;
    }

    int scale(int catalogue, int house, int year, int rung) {
        if (none(catalogue, house, year) || noRung(catalogue, rung)) {
            return -1;
        }
        return (int) or(scaleOf(now.cats.get(catalogue), now.houses.get(house), year, rung), -1);
    }

    int far(int catalogue, int house, int year, int thing, int rung) {
        if (none(catalogue, house, year) || rung != -1 && noRung(catalogue, rung)) {
            return -1;
        }
        Cat c = now.cats.get(catalogue);
        Hou h = now.houses.get(house);
        if (at(c.speeds, thing) == null) {
            return -1;
        }
        return (int) or(rung == -1 ? fars(c, h, year).get(thing) : farBy(c, h, year, thing, rung), -1);
    }

    private TreeMap<Integer, Long> farsFor(int catalogue, int house, int year) {
        return none(catalogue, house, year) ? null : fars(now.cats.get(catalogue), now.houses.get(house), year);
    }

    long line(int catalogue, int house, int year, int what) {
        Map<Integer, Long> fars = farsFor(catalogue, house, year);
        if (fars == null) {
            return -2000000000L;
        }
        BigInteger[] s = sums(now.cats.get(catalogue), fars);
        return switch (what) {
            case 0 -> fars.size();
            case 1 -> or(divided(s[4], s[5]), -2000000000L);
            case 2 -> or(divided(s[3], s[4]), -2000000000L);
            case 3 -> or(divided(s[0].multiply(s[4]).subtract(s[1].multiply(s[2])),
                s[0].multiply(s[5]).subtract(s[2].multiply(s[2]))), -2000000000L);
            default -> -2000000000L;
        };
    }

    int left(int catalogue, int house, int year, int thing) {
        Map<Integer, Long> fars = farsFor(catalogue, house, year);
        Long h = fars == null ? null : hOf(now.cats.get(catalogue), fars);
        if (h == null || !fars.containsKey(thing)) {
            return -1000000;
        }
        return (int) leftOf(now.cats.get(catalogue).speeds.get(thing), h, fars.get(thing));
    }

    long spread(int catalogue, int house, int year) {
        Map<Integer, Long> fars = farsFor(catalogue, house, year);
        Long h = fars == null ? null : hOf(now.cats.get(catalogue), fars);
        return h == null ? -1 : spreadOf(now.cats.get(catalogue), fars, h);
    }

    private TreeMap<Integer, Long> withoutsFor(int catalogue, int house, int year) {
        Map<Integer, Long> fars = farsFor(catalogue, house, year);
        return fars == null ? new TreeMap<>() : withouts(now.cats.get(catalogue), fars);
    }

    long without(int catalogue, int house, int year, int thing) {
        return or(withoutsFor(catalogue, house, year).get(thing), -2000000000L);
    }

    long span(int catalogue, int house, int year, boolean high) {
        TreeMap<Integer, Long> all = withoutsFor(catalogue, house, year);
        if (all.isEmpty()) {
            return -2000000000L;
        }
        return high ? java.util.Collections.max(all.values()) : java.util.Collections.min(all.values());
    }

    int odd(int catalogue, int house, int year, boolean heavy) {
        Map<Integer, Long> fars = farsFor(catalogue, house, year);
        Long h = fars == null ? null : hOf(now.cats.get(catalogue), fars);
        if (h == null) {
            return -1;
        }
        if (!heavy) {
            return orNone(oddOf(now.cats.get(catalogue), fars));
        }
        TreeMap<Integer, Long> off = withouts(now.cats.get(catalogue), fars);
        off.replaceAll((t, x) -> Math.abs(x - h));
        return orNone(greatest(off));
    }

    private Long hFor(int catalogue, int house, int year) {
        return none(catalogue, house, year) ? null : hOf(now.cats.get(catalogue), now.houses.get(house), year);
    }

    int age(int catalogue, int house, int year) {
        Long h = hFor(catalogue, house, year);
        return h == null || h <= 0 ? -1 : (int) (100000000 / h);
    }

    int barred(int catalogue, int house, int year) {
        int age = age(catalogue, house, year);
        if (age == -1) {
            return -1;
        }
        List<Integer> older = new ArrayList<>();
        List<Integer> stones = now.cats.get(catalogue).stones;
        for (int s = 0; s < stones.size(); s++) {
            if (stones.get(s) > age) {
                older.add(s);
            }
        }
        return bits(older);
    }

    long up(int catalogue, int house, int year, int rung) {
        if (none(catalogue, house, year) || noRung(catalogue, rung)) {
            return -2000000000L;
        }
        Hou more = now.houses.get(house).copy();
        more.leans[rung]++;
        Long h = hFor(catalogue, house, year);
        Long other = hOf(now.cats.get(catalogue), more, year);
        return h == null || other == null ? -2000000000L : other - h;
    }

    int worst(int catalogue, int house, int year) {
        if (none(catalogue, house, year)) {
            return -1;
        }
        TreeMap<Integer, Long> ups = new TreeMap<>();
        for (int r = 0; r < now.cats.get(catalogue).on.size(); r++) {
            long up = up(catalogue, house, year, r);
            if (up != -2000000000L) {
                ups.put(r, Math.abs(up));
            }
        }
        return orNone(greatest(ups));
    }

    private static void follow(Hou a, Hou b, int r) {
        a.uses.remove(r);
        if (b.uses.contains(r)) {
            a.uses.add(r);
        }
        a.leans[r] = b.leans[r];
    }

    int part(int catalogue, int a, int b, int year) {
        Long h = hFor(catalogue, a, year);
        if (h == null || at(now.houses, b) == null) {
            return -1;
        }
        TreeMap<Integer, Long> off = new TreeMap<>();
        for (int r = 0; r < now.cats.get(catalogue).on.size(); r++) {
            Hou other = now.houses.get(a).copy();
            follow(other, now.houses.get(b), r);
            Long by = hOf(now.cats.get(catalogue), other, year);
            if (by != null) {
                off.put(r, Math.abs(by - h));
            }
        }
        return orNone(greatest(off));
    }

    boolean agree(int catalogue, int a, int b, int year) {
        TreeMap<Integer, Long> allA = withoutsFor(catalogue, a, year);
        TreeMap<Integer, Long> allB = withoutsFor(catalogue, b, year);
        if (allA.isEmpty() || allB.isEmpty()) {
            return false;
        }
        return java.util.Collections.min(allA.values()) <= java.util.Collections.max(allB.values())
            && java.util.Collections.min(allB.values()) <= java.util.Collections.max(allA.values());
    }

    private List<Long> years(int catalogue, int house) {
        List<Long> all = new ArrayList<>();
        for (int y = 0; y < 100; y++) {
            all.add(hFor(catalogue, house, y));
        }
        return all;
    }

    int since(int catalogue, int house) {
        if (none(catalogue, house, 0)) {
            return -1;
        }
        List<Long> all = years(catalogue, house);
        for (int y = 0; y < 100; y++) {
            if (all.get(y) != null) {
                return y;
            }
        }
        return -1;
    }

    int stands(int catalogue, int house, int p) {
        if (none(catalogue, house, 0) || !within(p, 0, 100) || hFor(catalogue, house, 99) == null) {
            return -1;
        }
        List<Long> all = years(catalogue, house);
        long last = all.get(99);
        for (int y = 0; y < 100; y++) {
            if (all.subList(y, 100).stream().allMatch(h -> h != null && Math.abs(h - last) <= Math.abs(last * p / 100))) {
                return y;
            }
        }
        throw new IllegalStateException("year 99 stands by itself");
    }

    // ---- sorts

    private TreeMap<Integer, Long> ratios(int catalogue, int house, int year, int rung) {
        if (none(catalogue, house, year) || noRung(catalogue, rung)) {
            return null;
        }
        Cat c = now.cats.get(catalogue);
        Hou h = now.houses.get(house);
        TreeSet<Integer> others = new TreeSet<>(h.uses);
        others.remove(rung);
        TreeMap<Integer, Long> q = new TreeMap<>();
        for (int t = 0; t < c.speeds.size(); t++) {
            Integer raw = c.raw(t, rung, year);
            Long far = farOf(c, h, year, t, others, "first");
            if (raw != null && far != null) {
                q.put(t, Math.min(999999, 1000 * far / raw));
            }
        }
        return q;
    }

    private static List<Integer> ordered(TreeMap<Integer, Long> q) {
        List<Integer> all = new ArrayList<>(q.keySet());
        all.sort(Comparator.<Integer>comparingLong(q::get).thenComparingInt(t -> t));
        return all;
    }

    /** The squares of a heap's distances from its mean, not cut. */
    private static Frac squares(List<Long> heap) {
        BigInteger n = big(heap.size());
        BigInteger sum = big(heap.stream().mapToLong(x -> x).sum());
        BigInteger above = BigInteger.ZERO;
        for (long x : heap) {
            BigInteger off = big(x).multiply(n).subtract(sum);
            above = above.add(off.multiply(off));
        }
        return new Frac(above, n.multiply(n));
    }

    private static List<Long> values(TreeMap<Integer, Long> q, List<Integer> things) {
        List<Long> all = new ArrayList<>();
        things.forEach(t -> all.add(q.get(t)));
        return all;
    }

    private static int splitOf(List<Long> order) {
        int best = -1;
        Frac least = null;
        for (int k = 1; k < order.size(); k++) {
            Frac by = squares(order.subList(0, k)).plus(squares(order.subList(k, order.size())));
            if (least == null || by.compareTo(least) < 0) {
                best = k;
                least = by;
            }
        }
        return best;
    }

    int sorts(int catalogue, int house, int year, int rung, int what) {
        TreeMap<Integer, Long> q = ratios(catalogue, house, year, rung);
        if (q == null) {
            return -1;
        }
        List<Integer> order = ordered(q);
        if (what == 1) {
            return order.size();
        }
        if (what >= 10) {
            return what - 10 < order.size() ? order.get(what - 10) : -1;
        }
        int k = splitOf(values(q, order));
        if (k == -1) {
            return -1;
        }
        return switch (what) {
            case 0 -> k;
            case 2 -> (int) (values(q, order.subList(0, k)).stream().mapToLong(x -> x).sum() / k);
            case 3 -> (int) (values(q, order.subList(k, order.size())).stream().mapToLong(x -> x).sum()
                / (order.size() - k));
            default -> -1;
        };
    }

    int alike(int catalogue, int house, int year, int rung) {
        TreeMap<Integer, Long> q = ratios(catalogue, house, year, rung);
        if (q == null || !within(q.size(), 2, 14)) {
            return -1;
        }
        List<Long> order = values(q, ordered(q));
        int n = order.size();
        int k = splitOf(order);
        Frac by = squares(order.subList(0, k)).plus(squares(order.subList(k, n)));
        int found = 0;
        for (int set = 1; set < (1 << n) - 1; set++) {
            List<Long> in = new ArrayList<>();
            List<Long> out = new ArrayList<>();
            for (int i = 0; i < n; i++) {
                ((set >> i & 1) == 1 ? in : out).add(order.get(i));
            }
            if (squares(in).plus(squares(out)).compareTo(by) <= 0) {
                found++;
            }
        }
        return found;
    }

    int heaps(int catalogue, int house, int year, int rung, int f) {
        TreeMap<Integer, Long> q = ratios(catalogue, house, year, rung);
        if (q == null || q.isEmpty() || !within(f, 1, 999)) {
            return -1;
        }
        long middle = q.get(ordered(q).get((q.size() - 1) / 2));
        q.values().removeIf(x -> x * 100 <= f * middle);
        return bits(q.keySet());
    }

    // ---- skies

    int sky(int sky, int what) {
        Heaven s = at(now.skies, sky);
        if (s == null) {
            return -1;
        }
        if (within(what, 1, 5)) {
            return s.set.get(List.of("speed", "own", "err", "limit", "tries").get(what - 1));
        }
        if (within(what, 10, 9 + s.lights.size())) {
            return s.lights.get(what - 10)[0];
        }
        if (within(what, 20, 19 + s.lights.size())) {
            return s.lights.get(what - 20)[1];
        }
        return what == 0 ? s.lights.size() : -1;
    }

    private static boolean sees(Heaven s, int[] light, long far) {
        return 10000L * light[0] >= s.set.get("limit") * far * far;
    }

    int seen(int sky, int far) {
        Heaven s = at(now.skies, sky);
        if (s == null || !within(far, 1, 200)) {
            return -1;
        }
        return s.lights.stream().filter(l -> sees(s, l, far)).mapToInt(l -> l[1]).sum();
    }

    long chosen(int sky, int far, boolean all, boolean under) {
        Heaven s = at(now.skies, sky);
        if (s == null || !within(far, 1, all ? 60 : 200)) {
            return -1;
        }
        BigInteger seen = BigInteger.ZERO;
        BigInteger seenLight = BigInteger.ZERO;
        BigInteger any = BigInteger.ZERO;
        BigInteger anyLight = BigInteger.ZERO;
        for (int e = all ? 1 : far; e <= far; e++) {
            for (int[] l : s.lights) {
                BigInteger many = big((long) e * e * l[1]);
                BigInteger light = many.multiply(big(l[0]));
                any = any.add(many);
                anyLight = anyLight.add(light);
                if (sees(s, l, e)) {
                    seen = seen.add(many);
                    seenLight = seenLight.add(light);
                }
            }
        }
        if (seen.signum() == 0) {
            return -1;
        }
        BigInteger above = seenLight.multiply(any);
        BigInteger below = seen.multiply(anyLight);
        return (under ? below : above).divide(above.gcd(below)).longValueExact();
    }

    private static int x;

    private static int draw(int n) {
        x = big(x).multiply(big(1103515245)).add(big(12345)).intValue();
        return (int) ((x & 0xffffffffL) / 65536 % n);
    }

    private static Cat made(Heaven s, int seed) {
        List<int[]> row = new ArrayList<>();
        s.lights.forEach(l -> {
            for (int i = 0; i < l[1]; i++) {
                row.add(l);
            }
        });
        Cat c = new Cat();
        c.on.addAll(Arrays.asList(null, 0));
        c.scale.addAll(List.of(1000, 0));
        x = seed;
        for (int i = 0; i < s.set.get("tries"); i++) {
            int far = 1 + draw(200);
            int[] light = row.get(draw(row.size()));
            int own = draw(2 * s.set.get("own") + 1) - s.set.get("own");
            int err = draw(2 * s.set.get("err") + 1) - s.set.get("err");
            if (!sees(s, light, far)) {
                continue;
            }
            int thing = c.speeds.size();
            c.speeds.add(Math.max(-9999, Math.min(9999, s.set.get("speed") * far / 100 + own)));
            if (far < 50) {
                c.entries.put(List.of(thing, 0), new int[] {far, 0});
            }
            c.entries.put(List.of(thing, 1), new int[] {Math.max(1, 2 * far * (100 + err) / 100), 0});
        }
        return c;
    }

    int make(int sky, int at, int seed) {
        Heaven s = at(now.skies, sky);
        int where = placeFor(now.cats, 3, at);
        return s == null || where < 0 ? -1 : put(now.cats, where, made(s, seed));
    }

    long worlds(int sky, int house, int seed, int n, int what) {
        Heaven s = at(now.skies, sky);
        Hou h = at(now.houses, house);
        if (s == null || h == null || !within(n, 1, 20) || !within(what, 0, 2)) {
            return -1;
        }
        List<Long> all = new ArrayList<>();
        int hits = 0;
        for (int i = 0; i < n; i++) {
            Cat c = made(s, seed + i);
            Map<Integer, Long> fars = fars(c, h, 0);
            Long by = hOf(c, fars);
            if (by != null) {
                all.add(by);
            }
            long due = 10L * s.set.get("speed");
            TreeMap<Integer, Long> without = withouts(c, fars);
            if (without.values().stream().anyMatch(y -> y <= due) && without.values().stream().anyMatch(y -> y >= due)) {
                hits++;
            }
        }
        if (what == 1) {
            return all.isEmpty() ? -1 : all.stream().mapToLong(y -> y).sum() / all.size();
        }
        return what == 0 ? all.size() : hits;
    }

    // ---- orders, middles, other houses

    private static int orders(List<Long> v, List<Long> d, BigInteger sum, BigInteger goal) {
        if (v.isEmpty()) {
            return sum.compareTo(goal) >= 0 ? 1 : 0;
        }
        int found = 0;
        for (int i = 0; i < d.size(); i++) {
            List<Long> rest = new ArrayList<>(d);
            long far = rest.remove(i);
            found += orders(v.subList(1, v.size()), rest, sum.add(big(v.get(0) * far)), goal);
        }
        return found;
    }

    int chance(int catalogue, int house, int year) {
        TreeMap<Integer, Long> fars = farsFor(catalogue, house, year);
        if (fars == null || !within(fars.size(), 2, 7)) {
            return -1;
        }
        Cat c = now.cats.get(catalogue);
        List<Long> v = new ArrayList<>();
        fars.keySet().forEach(t -> v.add((long) c.speeds.get(t)));
        return orders(v, new ArrayList<>(fars.values()), BigInteger.ZERO, sums(c, fars)[4]);
    }

    long middle(int catalogue, int house, int year) {
        TreeMap<Integer, Long> fars = farsFor(catalogue, house, year);
        if (fars == null) {
            return -2000000000L;
        }
        List<Long> all = new ArrayList<>();
        fars.forEach((t, d) -> {
            if (d > 0) {
                all.add(1000L * now.cats.get(catalogue).speeds.get(t) / d);
            }
        });
        all.sort(null);
        return all.isEmpty() ? -2000000000L : all.get((all.size() - 1) / 2);
    }

    int across(int catalogue, int a, int b, int year) {
        TreeMap<Integer, Long> farsA = farsFor(catalogue, a, year);
        TreeMap<Integer, Long> farsB = farsFor(catalogue, b, year);
        if (farsA == null || farsB == null) {
            return -1;
        }
        TreeMap<Integer, Long> off = new TreeMap<>();
        farsA.forEach((t, d) -> {
            if (d > 0 && farsB.containsKey(t)) {
                off.put(t, Math.abs(d - farsB.get(t)) * 1000 / d);
            }
        });
        return orNone(greatest(off));
    }

    long path(int catalogue, int a, int b, int year, int r) {
        if (none(catalogue, a, year) || at(now.houses, b) == null || noRung(catalogue, r)) {
            return -2000000000L;
        }
        Hou other = now.houses.get(a).copy();
        for (int i = 0; i <= r; i++) {
            follow(other, now.houses.get(b), i);
        }
        return or(hOf(now.cats.get(catalogue), other, year), -2000000000L);
    }

    int strait(int catalogue, int house, int year) {
        if (none(catalogue, house, year)) {
            return -1;
        }
        Cat c = now.cats.get(catalogue);
        TreeMap<Integer, Long> widths = new TreeMap<>();
        for (int r : now.houses.get(house).uses) {
            Hou other = now.houses.get(house).copy();
            other.uses.remove(r);
            Long width = widthOf(c, fars(c, other, year));
            if (r < c.on.size() && width != null) {
                widths.put(r, width);
            }
        }
        return orNone(least(widths));
    }

    int changes(int catalogue, int house) {
        if (none(catalogue, house, 0)) {
            return -1;
        }
        List<Long> all = years(catalogue, house);
        int found = 0;
        for (int y = 1; y < 100; y++) {
            found += java.util.Objects.equals(all.get(y), all.get(y - 1)) ? 0 : 1;
        }
        return found;
    }

    int next(int catalogue, int house, int year) {
        TreeMap<Integer, Long> fars = farsFor(catalogue, house, year);
        Long h = fars == null ? null : hOf(now.cats.get(catalogue), fars);
        if (h == null || h == 0) {
            return -1;
        }
        Cat c = now.cats.get(catalogue);
        TreeMap<Integer, Long> widths = new TreeMap<>();
        for (int t = 0; t < c.speeds.size(); t++) {
            if (fars.containsKey(t) || now.houses.get(house).cast.contains(t)) {
                continue;
            }
            TreeMap<Integer, Long> more = new TreeMap<>(fars);
            more.put(t, Math.min(9999999, Math.max(1, 1000L * c.speeds.get(t) / h)));
            Long width = widthOf(c, more);
            if (width != null) {
                widths.put(t, width);
            }
        }
        return orNone(least(widths));
    }

    // ---- sayings

    int say(int house, int year, int low, int high) {
        if (now.sayings.size() == 16 || at(now.houses, house) == null || !within(year, 0, 99)
            || !within(low, -999999, 999999) || !within(high, -999999, 999999) || low >= high) {
            return -1;
        }
        now.sayings.add(new int[] {house, year, low, high});
        return now.sayings.size() - 1;
    }

    private boolean holds(int[] saying, Long h) {
        return h != null && saying[2] <= h && h <= saying[3];
    }

    int kept(int catalogue, int what) {
        if (at(now.cats, catalogue) == null) {
            return -1;
        }
        int kept = 0;
        int lined = 0;
        long wider = 0;
        for (int[] s : now.sayings) {
            Long h = hFor(catalogue, s[0], 99);
            kept += holds(s, h) ? 1 : 0;
            lined += h != null ? 1 : 0;
            while (h != null && Math.abs(2 * h - s[2] - s[3]) * 100 > wider * (s[3] - s[2]) && wider <= 1000000) {
                wider++;
            }
        }
        if (within(what, 0, 2)) {
            return what == 0 ? kept : what == 1 ? lined : wider > 1000000 ? -1 : (int) wider;
        }
        int[] one = at(now.sayings, what >= 30 ? what - 30 : what - 10);
        if (one == null) {
            return -1;
        }
        if (what < 30) {
            return holds(one, hFor(catalogue, one[0], 99)) ? 1 : 0;
        }
        for (int y = one[1]; y < 100; y++) {
            if (!holds(one, hFor(catalogue, one[0], y))) {
                return y;
            }
        }
        return -1;
    }

    long beside(int catalogue, int house, int year, int low, int high) {
        Long h = hFor(catalogue, house, year);
        if (h == null || low > high) {
            return -2000000000L;
        }
        return h > high ? h - high : h < low ? h - low : 0;
    }

    // ---- all

    int count(int what) {
        return switch (what) {
            case 0 -> now.cats.size();
            case 1 -> now.houses.size();
            case 2 -> now.skies.size();
            case 3 -> now.sayings.size();
            default -> -2;
        };
    }

    boolean image(int k) {
        if (!within(k, 0, 2)) {
            return false;
        }
        images[k] = now.copy();
        return true;
    }

    boolean again(int k) {
        if (!within(k, 0, 2) || images[k] == null) {
            return false;
        }
        now = images[k].copy();
        return true;
    }
}
