import java.util.ArrayDeque;
import java.util.ArrayList;
import java.util.Comparator;
import java.util.Deque;
import java.util.List;
import java.util.NoSuchElementException;
import java.util.OptionalInt;
import java.util.function.Function;
import java.util.function.IntPredicate;
import java.util.function.Predicate;
import java.util.function.ToIntFunction;
import java.util.regex.Matcher;
import java.util.regex.Pattern;
import java.util.stream.IntStream;

/** The document written a second time, with the whole library and without a thought for thrift. */
public final class Model {
    private static final int NONE = -1;

    private static final class Rider {
        int number;
        int cradle = NONE;
        int weight;
        int purse;
        int party;
    }

    private record Line(String act, int amount, Predicate<Rider> condition) {
    }

    private static final class State {
        List<Rider> riders = new ArrayList<>();
        List<Rider> row = new ArrayList<>();
        int[] bolts = {5, 5, 5, 5, 5, 5, 5, 5};
        int[] terms = new int[4];
        int fare = 5;
        int chest = 0;
        int reach = 4;
        int wind = 0;
        int top = 0;
        int stop = 0;
        int seed = 1;
        int texts = 0;
        String law = null;
        List<int[]> log = new ArrayList<>();

        State copy() {
            State s = new State();
            for (Rider r : riders) {
                Rider c = new Rider();
                c.number = r.number;
                c.cradle = r.cradle;
                c.weight = r.weight;
                c.purse = r.purse;
                c.party = r.party;
                s.riders.add(c);
            }
            row.forEach(r -> s.row.add(s.riders.get(r.number)));
            s.bolts = bolts.clone();
            s.terms = terms.clone();
            s.fare = fare;
            s.chest = chest;
            s.reach = reach;
            s.wind = wind;
            s.top = top;
            s.stop = stop;
            s.seed = seed;
            s.texts = texts;
            s.law = law;
            s.log = new ArrayList<>(log);
            return s;
        }

        List<Rider> in(int cradle) {
            return riders.stream().filter(r -> r.cradle == cradle).toList();
        }

        List<Rider> seated() {
            return riders.stream().filter(r -> r.cradle != NONE).toList();
        }

        boolean open(int cradle) {
            return bolts[cradle] != 0 && in(cradle).size() < 2;
        }

        Rider governor() {
            List<Rider> on = in(top);
            return on.isEmpty() ? null : on.get(0);
        }

        int places(int cradle) {
            return (cradle + 8 - top) % 8;
        }

        int height(int cradle) {
            int p = places(cradle);
            return 4 - Math.min(p, 8 - p);
        }

        int sum(String act, Rider r) {
            int n = 0;
            for (Line l : law == null ? new ArrayList<Line>() : new LawText(law, this).lines()) {
                if (l.act.equals(act) && (l.condition == null || r != null && l.condition.test(r))) {
                    n += l.amount;
                }
            }
            return n;
        }

        int owes(Rider r) {
            return Math.max(0, fare + sum("more", r) - sum("less", r));
        }

        void off(Rider r) {
            r.cradle = NONE;
            row.add(r);
        }

        int draw() {
            seed = seed * 1103515245 + 12345;
            return seed >> 16 & 0x7fff;
        }

        int stop(int draw, boolean wind) {
            top = (top + sum("go", governor()) + draw % reach + 1) % 8;
            Rider head = governor();
            if (head != null) {
                terms[head.party]++;
            }
            int bottom = (top + 4) % 8;
            int paid = 0;
            for (Rider r : in(bottom)) {
                int pay = Math.min(r.purse, owes(r));
                r.purse -= pay;
                paid += pay;
                chest = Math.min(9999, chest + pay);
                if (r.purse == 0) {
                    off(r);
                }
            }
            while (open(bottom) && row.stream().anyMatch(r -> r.purse > 0)) {
                Rider r = row.stream().filter(w -> w.purse > 0).findFirst().orElseThrow();
                row.remove(r);
                r.cradle = bottom;
            }
            if (wind) {
                blow();
            }
            log.add(new int[] {stop, top, head == null ? NONE : head.number, paid});
            if (log.size() > 60) {
                log.remove(0);
            }
            stop = Math.min(9999, stop + 1);
            return paid;
        }

        private void blow() {
            if (draw() % 100 < wind) {
                int c = draw() % 8;
                bolts[c] = Math.max(0, bolts[c] - 1);
                if (bolts[c] == 0) {
                    in(c).forEach(this::off);
                }
            }
        }
    }

    private static final class Wrong extends RuntimeException {
        private static final long serialVersionUID = 1L;
        final int at;

        Wrong(int at) {
            this.at = at;
        }
    }

    /** What texts have in common: things, and the exception that tells the first wrong byte. */
    private static class Text {
        private static final Pattern THING = Pattern.compile("[a-z]+|[0-9]+|[^ ]", Pattern.DOTALL);
        private final List<String> things = new ArrayList<>();
        private final List<Integer> begins = new ArrayList<>();
        private int at = 0;

        Text(String text) {
            Matcher m = THING.matcher(text);
            while (m.find()) {
                things.add(m.group());
                begins.add(m.start());
            }
            things.add("");
            begins.add(text.length());
        }

        Wrong wrong() {
            return new Wrong(begins.get(at));
        }

        boolean sees(String thing) {
            return things.get(at).equals(thing);
        }

        boolean eats(String thing) {
            if (sees(thing)) {
                at++;
                return true;
            }
            return false;
        }

        void needs(String thing) {
            if (!eats(thing)) {
                throw wrong();
            }
        }

        int number(IntPredicate right) {
            String t = things.get(at);
            if (!t.matches("[0-9]{1,3}") || !right.test(Integer.parseInt(t))) {
                throw wrong();
            }
            at++;
            return Integer.parseInt(t);
        }

        int number(int least, int most) {
            return number(n -> n >= least && n <= most);
        }

        void lines(int most, Runnable line) {
            if (sees("")) {
                return;
            }
            int n = 0;
            do {
                if (++n > most) {
                    throw wrong();
                }
                line.run();
            } while (eats(";"));
            if (!sees("")) {
                throw wrong();
            }
        }
    }

    private static final class FairText extends Text {
        private final State s;

        FairText(String text, State s) {
            super(text);
            this.s = s;
        }

        void read() {
            lines(14, this::line);
        }

        private void line() {
            if (sees("rider") && s.riders.size() == 8) {
                throw wrong();
            }
            if (eats("rider")) {
                Rider r = new Rider();
                r.number = s.riders.size();
                needs("weight");
                r.weight = number(1, 9);
                needs("purse");
                r.purse = number(0, 999);
                needs("party");
                r.party = number(0, 3);
                if (eats("in")) {
                    r.cradle = number(c -> c < 8 && s.open(c));
                } else {
                    s.row.add(r);
                }
                s.riders.add(r);
            } else if (eats("bolts")) {
                int c = number(0, 7);
                s.bolts[c] = number(0, 9);
            } else if (eats("fare")) {
                s.fare = number(0, 99);
            } else if (eats("chest")) {
                s.chest = number(0, 999);
            } else if (eats("reach")) {
                s.reach = number(1, 8);
            } else if (eats("wind")) {
                s.wind = number(0, 100);
            } else {
                needs("top");
                s.top = number(0, 7);
            }
        }
    }

    private static final class LawText extends Text {
        private final State s;
        private final List<Line> lines = new ArrayList<>();

        LawText(String text, State s) {
            super(text);
            this.s = s;
        }

        List<Line> lines() {
            lines(12, this::line);
            return lines;
        }

        private void line() {
            for (String act : List.of("go", "more", "less")) {
                if (eats(act)) {
                    int n = number(0, 30);
                    lines.add(new Line(act, n, eats("if") ? any(0) : null));
                    return;
                }
            }
            throw wrong();
        }

        private Predicate<Rider> any(int depth) {
            Predicate<Rider> p = all(depth);
            return eats("or") ? p.or(any(depth)) : p;
        }

        private Predicate<Rider> all(int depth) {
            Predicate<Rider> p = atom(depth);
            return eats("and") ? p.and(all(depth)) : p;
        }

        private Predicate<Rider> atom(int depth) {
            if ((sees("not") || sees("(")) && depth == 6) {
                throw wrong();
            }
            if (eats("not")) {
                return atom(depth + 1).negate();
            }
            if (eats("(")) {
                Predicate<Rider> p = any(depth + 1);
                needs(")");
                return p;
            }
            if (eats("rich")) {
                return r -> r.purse >= 50;
            }
            if (eats("alone")) {
                return r -> s.in(r.cradle).size() == 1;
            }
            ToIntFunction<Rider> a = sum();
            boolean less = sees("<");
            if (!eats("<")) {
                needs(">");
            }
            ToIntFunction<Rider> b = sum();
            return less ? r -> a.applyAsInt(r) < b.applyAsInt(r) : r -> a.applyAsInt(r) > b.applyAsInt(r);
        }

        private ToIntFunction<Rider> sum() {
            ToIntFunction<Rider> a = part();
            if (!eats("+")) {
                return a;
            }
            ToIntFunction<Rider> b = sum();
            return r -> a.applyAsInt(r) + b.applyAsInt(r);
        }

        private ToIntFunction<Rider> part() {
            if (eats("cradle")) {
                return r -> r.cradle;
            } else if (eats("weight")) {
                return r -> r.weight;
            } else if (eats("party")) {
                return r -> r.party;
            } else if (eats("bolts")) {
                return r -> s.bolts[r.cradle];
            } else if (eats("stop")) {
                return r -> s.stop;
            } else if (eats("height")) {
                return r -> s.height(r.cradle);
            } else if (eats("chest")) {
                return r -> s.chest / 100;
            }
            int n = number(0, 999);
            return r -> n;
        }
    }

    private StringBuilder tape = new StringBuilder();
    private State s = new State();
    private final Deque<State> acts = new ArrayDeque<>();
    private State image = null;
    private int fault = NONE;

    // ---- what calls must be given ----

    private Rider need(int rider) {
        if (rider < 0 || rider >= s.riders.size()) {
            throw new IndexOutOfBoundsException();
        }
        return s.riders.get(rider);
    }

    private static void index(int n, int size) {
        if (n < 0 || n >= size) {
            throw new IndexOutOfBoundsException();
        }
    }

    private static void argument(boolean right) {
        if (!right) {
            throw new IllegalArgumentException();
        }
    }

    private static void state(boolean right) {
        if (!right) {
            throw new IllegalStateException();
        }
    }

    private void act() {
        acts.addLast(s.copy());
        if (acts.size() > 12) {
            acts.removeFirst();
        }
    }

    private static int bits(IntStream numbers) {
        return numbers.map(n -> 1 << n).sum();
    }

    private static int bits(List<Rider> riders) {
        return bits(riders.stream().mapToInt(r -> r.number));
    }

    private static int weight(List<Rider> riders) {
        return riders.stream().mapToInt(r -> r.weight).sum();
    }

    private static int number(Rider r) {
        return r == null ? NONE : r.number;
    }

    // ---- the face ----

    public int feed(int a, int b, int c, int d, int e) {
        if (tape.length() > 380) {
            return NONE;
        }
        for (int n : new int[] {a, b, c, d, e}) {
            for (int k = 3; k >= 0; k--) {
                tape.append((char) (n >> 8 * k & 255));
            }
        }
        return tape.length();
    }

    public boolean end(int n) {
        if (n < 0 || n > tape.length()) {
            return false;
        }
        tape.setLength(n);
        return true;
    }

    private String use() {
        String text = tape.toString();
        tape = new StringBuilder();
        return text;
    }

    public int fair() {
        State next = s.copy();
        readOrThrow(() -> new FairText(use(), next).read());
        if (s.texts == 12) {
            throw new UnsupportedOperationException();
        }
        next.texts++;
        s = next;
        acts.clear();
        return s.texts;
    }

    public int law() {
        String text = tape.toString();
        readOrThrow(() -> new LawText(use(), s).lines());
        s.law = text;
        acts.clear();
        return new LawText(text, s).lines().size();
    }

    private void readOrThrow(Runnable read) {
        fault = NONE;
        try {
            read.run();
        } catch (Wrong w) {
            fault = w.at;
        }
        argument(fault == NONE);
    }

    public int fault() {
        return fault;
    }

    public int rider(int rider, int what) {
        Rider r = need(rider);
        boolean waits = r.cradle == NONE;
        return switch (what) {
            case 0 -> r.cradle;
            case 1 -> r.weight;
            case 2 -> r.purse;
            case 3 -> r.party;
            case 4 -> waits ? 0 : s.owes(r);
            case 5 -> waits ? NONE : s.height(r.cradle);
            case 6 -> waits ? 0 : bits(s.seated().stream()
                    .filter(o -> o != r && s.height(o.cradle) == s.height(r.cradle)).toList());
            case 7 -> s.row.indexOf(r);
            default -> throw new NoSuchElementException();
        };
    }

    public int cradle(int cradle, int what) {
        index(cradle, 8);
        return switch (what) {
            case 0 -> s.bolts[cradle];
            case 1 -> bits(s.in(cradle));
            case 2 -> s.places(cradle);
            case 3 -> s.height(cradle);
            case 4 -> weight(s.in(cradle));
            case 5 -> 10 * s.places(cradle);
            default -> throw new NoSuchElementException();
        };
    }

    private int partyWeight(int set) {
        return weight(s.seated().stream().filter(r -> (set >> r.party & 1) == 1).toList());
    }

    private boolean wins(int set) {
        return partyWeight(set) > weight(s.seated()) / 2.0;
    }

    public int party(int party, int what) {
        index(party, 4);
        int me = 1 << party;
        return switch (what) {
            case 0 -> s.terms[party];
            case 1 -> bits(s.riders.stream().filter(r -> r.party == party).toList());
            case 2 -> partyWeight(me);
            case 3 -> (int) IntStream.range(0, 16).filter(x -> (x & me) == 0 && !wins(x) && wins(x | me)).count();
            default -> throw new NoSuchElementException();
        };
    }

    public int governor() {
        return number(s.governor());
    }

    public int farther() {
        return s.sum("go", s.governor());
    }

    public int board(int rider, int cradle) {
        Rider r = need(rider);
        index(cradle, 8);
        state(r.cradle == NONE && s.open(cradle));
        act();
        s.row.remove(r);
        r.cradle = cradle;
        return s.in(cradle).size();
    }

    public int move(int rider, boolean up) {
        Rider r = need(rider);
        state(r.cradle != NONE);
        int to = (r.cradle + (up ? 1 : 7)) % 8;
        state(s.open(to));
        act();
        r.cradle = to;
        return to;
    }

    public int off(int rider) {
        Rider r = need(rider);
        state(r.cradle != NONE);
        act();
        s.off(r);
        return s.row.size();
    }

    public int bolt(int cradle) {
        index(cradle, 8);
        state(s.bolts[cradle] < 9);
        act();
        return ++s.bolts[cradle];
    }

    public int dole(int rider, int n) {
        Rider r = need(rider);
        argument(n >= 1 && n <= s.chest);
        act();
        s.chest -= n;
        r.purse = Math.min(999, r.purse + n);
        return r.purse;
    }

    public int fare(int n) {
        argument(n >= 0 && n <= 99);
        act();
        int was = s.fare;
        s.fare = n;
        return was;
    }

    public int bribe(int n) {
        argument(n >= 1 && n <= 7);
        state(s.chest >= 10 * n);
        act();
        s.chest -= 10 * n;
        s.top = (s.top + n) % 8;
        return s.top;
    }

    public int stops(int n) {
        argument(n >= 1 && n <= 60);
        act();
        return IntStream.range(0, n).map(i -> s.stop(s.draw(), true)).sum();
    }

    private int chance(int cradle, int n) {
        int ways = 0;
        int all = (int) Math.pow(s.reach, n);
        for (int k = 0; k < all; k++) {
            int top = s.top + n;
            for (int rest = k, i = 0; i < n; i++, rest /= s.reach) {
                top += rest % s.reach;
            }
            ways += top % 8 == cradle ? 1 : 0;
        }
        return (int) (10000L * ways / all);
    }

    private static void fiveAtMost(int n) {
        argument(n >= 1 && n <= 5);
    }

    public int odds(int cradle, int n) {
        index(cradle, 8);
        fiveAtMost(n);
        return chance(cradle, n);
    }

    public int best(int n) {
        fiveAtMost(n);
        return IntStream.range(0, 8).filter(s::open).boxed()
                .min(Comparator.comparing((Integer c) -> -chance(c, n)).thenComparing(c -> c)).orElse(NONE);
    }

    public int rules(int party, int n) {
        index(party, 4);
        fiveAtMost(n);
        return IntStream.range(0, 8).filter(c -> !s.in(c).isEmpty() && s.in(c).get(0).party == party)
                .map(c -> chance(c, n)).sum();
    }

    private int leanOf(List<Rider> riders) {
        return riders.stream().mapToInt(r -> Integer.signum(4 - s.places(r.cradle)) * (s.places(r.cradle) == 0 ? 0 : r.weight)).sum();
    }

    public int lean() {
        return leanOf(s.seated());
    }

    public int seat(int rider) {
        Rider r = need(rider);
        int was = r.cradle;
        List<int[]> tries = new ArrayList<>();
        for (int c = 0; c < 8; c++) {
            if (c == was || s.open(c)) {
                r.cradle = c;
                tries.add(new int[] {c, Math.abs(lean())});
                r.cradle = was;
            }
        }
        return tries.stream().min(Comparator.comparing(t -> t[1])).map(t -> t[0]).orElse(NONE);
    }

    public int shifts() {
        return IntStream.range(0, 256).filter(x -> (x & ~bits(s.seated())) == 0)
                .filter(x -> leanOf(s.seated().stream().filter(r -> (x >> r.number & 1) == 0).toList()) == 0)
                .boxed().min(Comparator.comparing((Integer x) -> Integer.bitCount(x)).thenComparing(x -> x)).orElseThrow();
    }

    public int majority() {
        return IntStream.range(0, 16).filter(this::wins).boxed()
                .min(Comparator.comparing((Integer x) -> Integer.bitCount(x)).thenComparing(x -> x)).orElse(0);
    }

    private int have(int party, int one, int two) {
        State t = s.copy();
        if (one == two) {
            t.fare = Math.min(99, Math.max(0, s.fare + (one == 0 ? 1 : -1)));
        }
        return t.seated().stream().filter(r -> r.party == party).mapToInt(r -> Math.max(0, r.purse - t.owes(r))).sum();
    }

    public int rests(int party, int other) {
        index(party, 4);
        index(other, 4);
        argument(party != other);
        return bits(IntStream.range(0, 4).filter(k -> have(party, k / 2, k % 2) >= have(party, 1 - k / 2, k % 2)
                && have(other, k / 2, k % 2) >= have(other, k / 2, 1 - k % 2)));
    }

    public int affords() {
        return bits(IntStream.range(0, 8).filter(c -> 10 * s.places(c) <= s.chest));
    }

    public int reign() {
        return s.seated().stream().filter(r -> s.in(r.cradle).get(0) == r && 10 * s.places(r.cradle) <= s.chest)
                .min(Comparator.comparing(r -> -r.purse)).map(r -> r.number).orElse(NONE);
    }

    private List<int[]> pairsByTape() {
        String moves = use();
        argument(moves.length() <= 40 && moves.chars().allMatch(m -> m >= 1 && m <= 30));
        List<int[]> pairs = new ArrayList<>();
        for (int f = 0; f <= 9; f++) {
            for (int r = 1; r <= 8; r++) {
                int[] pair = {f, r};
                if (moves.chars().allMatch(m -> can(pair, m))) {
                    pairs.add(pair);
                }
            }
        }
        return pairs;
    }

    private static boolean can(int[] pair, int move) {
        return IntStream.rangeClosed(pair[0] + 1, pair[0] + pair[1]).anyMatch(m -> m == move);
    }

    public int moves(boolean reach) {
        List<int[]> pairs = pairsByTape();
        return reach ? pairs.stream().mapToInt(p -> p[1]).min().orElse(NONE) : pairs.size();
    }

    public int watch() {
        List<int[]> pairs = pairsByTape();
        return parting(IntStream.rangeClosed(1, 17), pairs, m -> p -> can(p, m));
    }

    private static <T> int parting(IntStream questions, List<T> among, Function<Integer, Predicate<T>> yes) {
        if (among.size() < 2) {
            return NONE;
        }
        return questions.boxed().min(Comparator.comparing((Integer q) -> {
            int n = (int) among.stream().filter(yes.apply(q)).count();
            return Math.max(n, among.size() - n);
        })).orElseThrow();
    }

    private List<Integer> heightsByTape() {
        String seen = use();
        argument(seen.length() <= 40 && seen.length() % 2 == 0);
        argument(IntStream.range(0, seen.length()).allMatch(i -> seen.charAt(i) <= (i % 2 == 0 ? 4 : 1)));
        return IntStream.rangeClosed(0, 5).filter(h -> IntStream.range(0, seen.length() / 2)
                .allMatch(i -> (seen.charAt(2 * i) >= h ? 1 : 0) == seen.charAt(2 * i + 1))).boxed().toList();
    }

    public int fire() {
        return bits(heightsByTape().stream().mapToInt(h -> h));
    }

    public int ask() {
        return parting(IntStream.range(0, 5), heightsByTape(), asked -> from -> asked >= from);
    }

    private State aheadBy(int draw, int n) {
        State t = s.copy();
        IntStream.range(0, n).forEach(i -> t.stop(draw, false));
        return t;
    }

    private void draw(int draw) {
        argument(draw >= 0 && draw < s.reach);
    }

    private int first(int from, int to, int draw, Predicate<State> found) {
        State t = aheadBy(draw, from);
        OptionalInt n = IntStream.rangeClosed(from, to).filter(i -> {
            boolean is = found.test(t);
            t.stop(draw, false);
            return is;
        }).findFirst();
        return n.orElse(NONE);
    }

    public int boards(int rider, int draw) {
        need(rider);
        draw(draw);
        return first(0, 100, draw, t -> t.riders.get(rider).cradle != NONE);
    }

    public int ruled(int rider, int draw) {
        need(rider);
        draw(draw);
        return first(0, 100, draw, t -> number(t.governor()) == rider);
    }

    public int round(int draw) {
        draw(draw);
        return first(1, 64, draw, t -> t.top == s.top
                && s.riders.stream().allMatch(r -> t.riders.get(r.number).cradle == r.cradle));
    }

    private static void hundredAtMost(int n) {
        argument(n >= 0 && n <= 100);
    }

    public int ruin(int draw, int n) {
        draw(draw);
        hundredAtMost(n);
        return bits(aheadBy(draw, n).riders.stream().filter(r -> r.purse == 0).toList());
    }

    public int ahead(int draw, int n, int what) {
        draw(draw);
        hundredAtMost(n);
        State t = aheadBy(draw, n);
        return switch (what) {
            case 0 -> t.top;
            case 1 -> number(t.governor());
            case 2 -> t.chest;
            default -> throw new NoSuchElementException();
        };
    }

    public int richest() {
        return s.riders.stream().min(Comparator.comparing(r -> -r.purse)).map(r -> r.number).orElse(NONE);
    }

    public int room() {
        return bits(IntStream.range(0, 8).filter(s::open));
    }

    public int pairs() {
        return (int) IntStream.range(0, 8).mapToObj(s::in).filter(l -> l.size() == 2 && l.get(0).party == l.get(1).party).count();
    }

    public int weakest() {
        return IntStream.range(0, 8).boxed().min(Comparator.comparing(c -> s.bolts[c])).orElseThrow();
    }

    private State tried(int n, int seed) {
        State t = s.copy();
        t.seed = seed;
        IntStream.range(0, n).forEach(i -> t.stop(t.draw(), true));
        return t;
    }

    private static void sixtyAtMost(int n) {
        argument(n >= 0 && n <= 60);
    }

    public int trial(int n, boolean waiting) {
        sixtyAtMost(n);
        State t = tried(n, s.seed);
        return waiting ? t.row.size() : t.chest;
    }

    public int span(int n, boolean most) {
        sixtyAtMost(n);
        IntStream chests = IntStream.rangeClosed(1, 6).map(seed -> tried(n, seed).chest);
        return (most ? chests.max() : chests.min()).orElseThrow();
    }

    public int led(int rider, boolean stop) {
        need(rider);
        List<int[]> rows = s.log.stream().filter(l -> l[2] == rider).toList();
        if (!stop) {
            return rows.size();
        }
        return rows.isEmpty() ? NONE : rows.get(rows.size() - 1)[0];
    }

    public int log(int ago, int what) {
        if (what < 0 || what > 3) {
            throw new NoSuchElementException();
        }
        return ago < 0 || ago >= s.log.size() ? -2 : s.log.get(s.log.size() - 1 - ago)[what];
    }

    public int seed(int n) {
        int was = s.seed;
        s.seed = n;
        return was;
    }

    public boolean undo() {
        if (acts.isEmpty()) {
            return false;
        }
        s = acts.removeLast();
        return true;
    }

    public void image() {
        image = s.copy();
    }

    public boolean back() {
        if (image == null) {
            return false;
        }
        s = image.copy();
        acts.clear();
        return true;
    }

    public int count(int what) {
        return switch (what) {
            case 0 -> s.riders.size();
            case 1 -> s.texts;
            case 2 -> s.law == null ? NONE : new LawText(s.law, s).lines().size();
            case 3 -> s.stop;
            case 4 -> s.top;
            case 5 -> s.fare;
            case 6 -> s.chest;
            case 7 -> s.reach;
            case 8 -> s.wind;
            case 9 -> s.row.size();
            case 10 -> bits(IntStream.range(0, 8).filter(c -> s.bolts[c] == 0));
            case 11 -> s.riders.stream().mapToInt(r -> r.purse).sum();
            case 12 -> IntStream.of(s.bolts).sum();
            case 13 -> s.log.size();
            case 14 -> acts.size();
            default -> NONE;
        };
    }
}
