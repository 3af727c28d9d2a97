import java.math.BigInteger;
import java.util.ArrayDeque;
import java.util.ArrayList;
import java.util.HashMap;
import java.util.List;
import java.util.Map;
import java.util.Set;
import java.util.TreeSet;

/** The document written a second time, slowly, with sets and lists and by trying all there is. */
final class PlainHouses {
    static final int NONE = -1000000, BAD = -1000001, STATE = -1000002, FULL = -1000003;

    private static final class Items {
        int lane;
        List<Integer> items = new ArrayList<>();
    }

    private static final class Person {
        char sort;
        int house;
        boolean up;
        Set<Integer> knows = new TreeSet<>();

        Person twin() {
            Person p = new Person();
            p.sort = sort;
            p.house = house;
            p.up = up;
            p.knows.addAll(knows);
            return p;
        }
    }

    private static final class World {
        int law;
        int day;
        List<Integer> figures = new ArrayList<>();
        List<Integer> walls = new ArrayList<>();
        List<Person> folk = new ArrayList<>();
        Set<Integer> faded = new TreeSet<>();

        World twin() {
            World w = new World();
            w.law = law;
            w.day = day;
            w.figures.addAll(figures);
            w.walls.addAll(walls);
            for (Person p : folk) w.folk.add(p.twin());
            w.faded.addAll(faded);
            return w;
        }

        int cells() {
            return figures.size();
        }

        Set<Integer> cellsOf(int house) {
            Set<Integer> in = new TreeSet<>();
            for (int c = 0; c < cells(); c++) {
                int h = 0;
                for (int wall : walls) if (c >= wall) h++;
                if (h == house) in.add(c);
            }
            return in;
        }

        boolean rises(int c) {
            return c == 0 || figures.get(c) > figures.get(c - 1);
        }

        Set<Integer> sees(Person p) {
            Set<Integer> seen = new TreeSet<>();
            Set<Integer> in = cellsOf(p.house);
            for (int c = 0; c < cells(); c++) {
                boolean here = in.contains(c);
                boolean fresh = !faded.contains(c);
                boolean does = switch (p.sort) {
                    case 'l' -> here && fresh;
                    case 'd' -> fresh && (here || in.contains(c - 1) || in.contains(c + 1));
                    case 's' -> here && fresh && c % 2 == 0;
                    case 'o' -> here && fresh && rises(c);
                    default -> here && rises(c);
                };
                if (does) seen.add(c);
            }
            return seen;
        }

        void pass() {
            for (Person p : folk) {
                int next = p.up ? p.house + 1 : p.house - 1;
                if (next < 0 || next > walls.size()) {
                    p.up = !p.up;
                    next = p.up ? p.house + 1 : p.house - 1;
                }
                if (next >= 0 && next <= walls.size()) p.house = next;
                p.knows.addAll(sees(p));
            }
            if (law > 0) faded.add(day * law % cells());
            day++;
        }

        boolean mayStand(int place) {
            return place >= 1 && place <= cells() - 1 && !walls.contains(place);
        }

        Set<Integer> anybody() {
            Set<Integer> known = new TreeSet<>();
            for (Person p : folk) known.addAll(p.knows);
            return known;
        }

        World after(int days) {
            World w = twin();
            for (int d = 0; d < days; d++) w.pass();
            return w;
        }

        int period(Person p) {
            for (int period = 1; ; period++) {
                Map<Integer, Integer> by = new HashMap<>();
                boolean alike = true;
                for (int c : p.knows) {
                    Integer other = by.put(c % period, figures.get(c));
                    if (other != null && !other.equals(figures.get(c))) alike = false;
                }
                if (alike) return period;
            }
        }
    }

    private final Items[] rows = new Items[8];
    private final StringBuilder tape = new StringBuilder();
    private World world;
    private final World[] images = new World[2];
    private final ArrayDeque<World> acts = new ArrayDeque<>();
    private final List<Integer> trace = new ArrayList<>();
    private int finding;
    private int fault;

    private static int bits(Set<Integer> set) {
        int bits = 0;
        for (int k : set) bits |= 1 << k;
        return bits;
    }

    private int found(int number) {
        finding = number;
        return -1000010 - number;
    }

    private int sound(int answer) {
        finding = 0;
        return answer;
    }

    private static boolean in(int n, int least, int most) {
        return n >= least && n <= most;
    }

    private boolean someone(int folk) {
        return world != null && in(folk, 0, world.folk.size() - 1);
    }

    private static boolean inside(Items row, long i, long n) {
        return i >= 0 && n >= 0 && i + n <= row.items.size();
    }

    public int row(int row, int lane, int n) {
        if (!in(row, 0, 7) || !in(lane, 0, 2) || n > 40) return BAD;
        if (n < 0) return found(4);
        rows[row] = new Items();
        rows[row].lane = lane;
        for (int k = 0; k < n; k++) rows[row].items.add(0);
        return sound(n);
    }

    public int set(int row, int i, int v) {
        if (!in(row, 0, 7)) return BAD;
        if (rows[row] == null) return found(1);
        if (!inside(rows[row], i, 1)) return found(2);
        int shift = new int[] {24, 16, 0}[rows[row].lane];
        rows[row].items.set(i, v << shift >> shift);
        return sound(rows[row].items.get(i));
    }

    public int copy(int a, int i, int b, int j, int n) {
        if (!in(a, 0, 7) || !in(b, 0, 7)) return BAD;
        if (rows[a] == null || rows[b] == null) return found(1);
        if (rows[a].lane != rows[b].lane) return found(5);
        if (!inside(rows[a], i, n) || !inside(rows[b], j, n)) return found(2);
        List<Integer> ahead = new ArrayList<>(rows[a].items);
        for (int k = 0; k < n; k++) rows[b].items.set(j + k, ahead.get(i + k));
        return sound(n);
    }

    public int drop(int row) {
        if (!in(row, 0, 7)) return BAD;
        if (rows[row] == null) return found(1);
        int had = rows[row].items.size();
        rows[row] = null;
        return sound(had);
    }

    public int feed(int letter) {
        if (!in(letter, 0, 255)) return BAD;
        if (tape.length() == 90) return FULL;
        tape.append((char) letter);
        return tape.length();
    }

    /** A reader by what may come next: a state is a letter, the tokens are cut ahead. */
    private static final class Reader {
        final List<String> tokens = new ArrayList<>();
        final List<Integer> places = new ArrayList<>();
        int k;
        int fault;

        Reader(String text) {
            int i = 0;
            while (i < text.length()) {
                int j = i + 1;
                if (Character.isDigit(text.charAt(i))) {
                    while (j < text.length() && Character.isDigit(text.charAt(j))) j++;
                }
                tokens.add(text.substring(i, j));
                places.add(i);
                i = j;
            }
            tokens.add("");
            places.add(text.length());
        }

        String next() {
            return tokens.get(k);
        }

        boolean is(String regex) {
            return next().matches(regex);
        }

        boolean fail(int number) {
            fault = number;
            return false;
        }

        boolean take(String regex) {
            if (!is(regex)) return fail(1);
            k++;
            return true;
        }

        Integer number(int least, int most) {
            if (!is("[0-9]{1,2}")) {
                fail(1);
                return null;
            }
            int n = Integer.parseInt(next());
            if (n < least || n > most) {
                fail(2);
                return null;
            }
            k++;
            return n;
        }

        boolean all(World w) {
            if (!take("q")) return false;
            Integer law = number(0, 24);
            if (law == null || !take(";") || !take("p")) return false;
            w.law = law;
            for (int c = 0; c < 6; c++) {
                if (!is("[a-j]")) return fail(1);
                w.figures.add(next().charAt(0) - 'a');
                k++;
            }
            while (is("[a-j]")) {
                if (w.figures.size() == 24) return fail(3);
                w.figures.add(next().charAt(0) - 'a');
                k++;
            }
            if (!take(";")) return false;
            while (is("x")) {
                if (w.walls.size() == 5) return fail(3);
                k++;
                int before = w.walls.isEmpty() ? 0 : w.walls.get(w.walls.size() - 1);
                Integer wall = number(before + 1, w.figures.size() - 1);
                if (wall == null || !take(";")) return false;
                w.walls.add(wall);
            }
            while (!next().isEmpty()) {
                if (!is("[ldsob]")) return fail(1);
                if (w.folk.size() == 5) return fail(3);
                Person p = new Person();
                p.sort = next().charAt(0);
                k++;
                Integer house = number(0, w.walls.size());
                if (house == null || !take(",")) return false;
                Integer way = number(0, 1);
                if (way == null || !take(";")) return false;
                p.house = house;
                p.up = way == 1;
                w.folk.add(p);
            }
            return true;
        }
    }

    public int paper() {
        Reader reader = new Reader(tape.toString());
        tape.setLength(0);
        World read = new World();
        if (!reader.all(read)) {
            fault = reader.fault;
            return -1000100 - reader.places.get(reader.k);
        }
        world = read;
        acts.clear();
        return world.cells();
    }

    public int fault() {
        return fault;
    }

    private void act() {
        acts.addLast(world.twin());
        if (acts.size() > 24) acts.removeFirst();
    }

    public int days(int n) {
        if (world == null) return STATE;
        if (!in(n, 1, 24)) return BAD;
        if (world.day + n > 9999) return FULL;
        for (int d = 0; d < n; d++) {
            act();
            world.pass();
        }
        return bits(world.anybody());
    }

    public int move(int wall, int up) {
        if (world == null || !in(wall, 0, world.walls.size() - 1) || !in(up, 0, 1)) return BAD;
        int place = world.walls.get(wall) + 2 * up - 1;
        if (!world.mayStand(place)) return STATE;
        act();
        world.walls.set(wall, place);
        return place;
    }

    public int fade(int cell, int on) {
        if (world == null || !in(cell, 0, world.cells() - 1) || !in(on, 0, 1)) return BAD;
        if (world.faded.contains(cell) == (on == 1)) return STATE;
        act();
        if (on == 1) world.faded.add(cell);
        else world.faded.remove(cell);
        return bits(world.faded);
    }

    public int put(int folk, int house) {
        if (!someone(folk) || !in(house, 0, world.walls.size())) return BAD;
        act();
        Person p = world.folk.get(folk);
        p.house = house;
        p.knows.addAll(world.sees(p));
        return bits(p.knows);
    }

    public int undo() {
        if (acts.isEmpty()) return STATE;
        world = acts.removeLast();
        return acts.size();
    }

    public int cell(int cell, int what) {
        if (world == null || !in(cell, 0, world.cells() - 1) || !in(what, 0, 3)) return BAD;
        if (what == 0) return world.figures.get(cell);
        if (what == 1) return world.faded.contains(cell) ? 1 : 0;
        Set<Integer> who = new TreeSet<>();
        for (int f = 0; f < world.folk.size(); f++) if (world.folk.get(f).knows.contains(cell)) who.add(f);
        if (what == 3) return bits(who);
        int h = 0;
        while (!world.cellsOf(h).contains(cell)) h++;
        return h;
    }

    public int house(int house, int what) {
        if (world == null || !in(house, 0, world.walls.size()) || !in(what, 0, 2)) return BAD;
        Set<Integer> in = world.cellsOf(house);
        if (what == 0) return in.iterator().next();
        if (what == 1) return in.size();
        Set<Integer> who = new TreeSet<>();
        for (int f = 0; f < world.folk.size(); f++) if (world.folk.get(f).house == house) who.add(f);
        return bits(who);
    }

    public int folk(int folk, int what) {
        if (!someone(folk) || !in(what, 0, 4)) return BAD;
        Person p = world.folk.get(folk);
        return switch (what) {
            case 0 -> p.house;
            case 1 -> p.up ? 1 : 0;
            case 2 -> bits(p.knows);
            case 3 -> bits(world.sees(p));
            default -> world.period(p);
        };
    }

    public int ahead(int folk, int d, int what) {
        if (!someone(folk) || !in(d, 0, 60) || !in(what, 0, 1)) return BAD;
        Person p = world.after(d).folk.get(folk);
        return what == 0 ? p.house : bits(p.knows);
    }

    public int all(int folk) {
        if (!someone(folk)) return BAD;
        World w = world.twin();
        for (int d = 0; d <= 60; d++) {
            if (w.folk.get(folk).knows.size() == w.cells()) return d;
            w.pass();
        }
        return NONE;
    }

    public int first(int what) {
        if (world == null) return STATE;
        if (!in(what, 0, 1)) return BAD;
        World w = world.twin();
        for (int d = 0; d <= 60; d++) {
            for (int f = 0; f < w.folk.size(); f++) {
                if (w.folk.get(f).knows.size() == w.cells()) return what == 0 ? f : d;
            }
            w.pass();
        }
        return NONE;
    }

    public int both(int one, int other, int what) {
        if (!someone(one) || !someone(other) || one == other || !in(what, 0, 1)) return BAD;
        Set<Integer> a = world.folk.get(one).knows;
        Set<Integer> b = world.folk.get(other).knows;
        int alike = 0;
        int goesOn = 0;
        for (int c = 0; c < world.cells(); c++) {
            if (a.contains(c) && b.contains(c)) alike |= 1 << c;
            if (a.contains(c) && b.contains(c + 1) && !a.contains(c + 1)) goesOn++;
        }
        return what == 0 ? alike : goesOn;
    }

    public int together(int what) {
        if (world == null) return STATE;
        if (!in(what, 0, 1)) return BAD;
        for (int many = 0; many <= world.folk.size(); many++) {
            for (int which = 0; which < 32; which++) {
                if (Integer.bitCount(which) != many || which >> world.folk.size() != 0) continue;
                Set<Integer> known = new TreeSet<>();
                for (int f = 0; f < 5; f++) if ((which >> f & 1) == 1) known.addAll(world.folk.get(f).knows);
                if (known.size() == world.cells()) return what == 0 ? many : which;
            }
        }
        return NONE;
    }

    public int beyond(int folk, int cell) {
        if (!someone(folk) || !in(cell, 0, 99)) return BAD;
        Person p = world.folk.get(folk);
        int period = world.period(p);
        for (int c : p.knows) if (c % period == cell % period) return world.figures.get(c);
        return NONE;
    }

    public int piece(int row, int i, int n, int what) {
        if (world == null) return STATE;
        if (!in(row, 0, 7) || !in(n, 1, 12) || !in(what, 0, 1)) return BAD;
        if (rows[row] == null) return found(1);
        if (!inside(rows[row], i, n)) return found(2);
        List<Integer> told = rows[row].items.subList(i, i + n);
        List<Integer> places = new ArrayList<>();
        for (int c = 0; c + n <= world.cells(); c++) {
            if (world.figures.subList(c, c + n).equals(told)) places.add(c);
        }
        return sound(what == 0 ? places.size() : places.isEmpty() ? NONE : places.get(0));
    }

    /** All places in which walls can come to stand, by moves one by one. */
    public int room(int k) {
        if (world == null) return STATE;
        if (!in(k, 1, 8)) return BAD;
        ArrayDeque<List<Integer>> open = new ArrayDeque<>();
        Map<List<Integer>, Integer> moves = new HashMap<>();
        open.add(world.walls);
        moves.put(world.walls, 0);
        while (!open.isEmpty()) {
            List<Integer> walls = open.removeFirst();
            if (smallest(walls) >= k) return moves.get(walls);
            for (int w = 0; w < walls.size(); w++) {
                for (int by = -1; by <= 1; by += 2) {
                    int place = walls.get(w) + by;
                    if (place < 1 || place >= world.cells() || walls.contains(place)) continue;
                    List<Integer> moved = new ArrayList<>(walls);
                    moved.set(w, place);
                    if (moves.putIfAbsent(moved, moves.get(walls) + 1) == null) open.addLast(moved);
                }
            }
        }
        return NONE;
    }

    private int smallest(List<Integer> walls) {
        int least = 99;
        int from = 0;
        for (int wall : walls) {
            least = Math.min(least, wall - from);
            from = wall;
        }
        return Math.min(least, world.cells() - from);
    }

    public int rent(int house, int n) {
        if (world == null || !in(house, 0, world.walls.size()) || !in(n, 0, 999)) return BAD;
        int[] shares = new int[world.walls.size() + 1];
        int left = n;
        for (int h = 0; h < shares.length; h++) {
            shares[h] = n * world.cellsOf(h).size() / world.cells();
            left -= shares[h];
        }
        for (int h = 0; left > 0; h++, left--) shares[h]++;
        return shares[house];
    }

    public int fits(int folk, int row, int i, int n, int what) {
        if (!someone(folk) || !in(row, 0, 7) || !in(n, 1, 12) || !in(what, 0, 3)) return BAD;
        if (rows[row] == null) return found(1);
        if (!inside(rows[row], i, n)) return found(2);
        Set<Integer> which = new TreeSet<>();
        for (int guess = 0; guess < 25; guess++) {
            World w = world.twin();
            Person p = w.folk.get(folk);
            if (what == 0 && !in(guess, 1, 5) || what == 1 && guess > w.walls.size() || what == 2 && guess > 1) continue;
            if (what == 0) p.sort = " ldsob".charAt(guess);
            if (what == 1) p.house = guess;
            if (what == 2) p.up = guess == 1;
            if (what == 3) w.law = guess;
            List<Integer> sizes = new ArrayList<>();
            for (int d = 0; d < n; d++) {
                w.pass();
                sizes.add(p.knows.size());
            }
            if (sizes.equals(rows[row].items.subList(i, i + n))) which.add(guess);
        }
        return sound(bits(which));
    }

    private BigInteger chance(World w, int wall, int folk, int cell, int d, int c) {
        if (wall < 0) return w.after(d).folk.get(folk).knows.contains(cell) ? BigInteger.ONE : BigInteger.ZERO;
        BigInteger stays = chance(w, wall - 1, folk, cell, d, c).multiply(BigInteger.valueOf(10 - c));
        World moved = w.twin();
        int place = w.walls.get(wall) + 1;
        int limit = wall + 1 < w.walls.size() ? w.walls.get(wall + 1) : w.cells();
        if (place != limit) moved.walls.set(wall, place);
        return stays.add(chance(moved, wall - 1, folk, cell, d, c).multiply(BigInteger.valueOf(c)));
    }

    public int settled(int folk, int cell, int d, int c, int what) {
        if (!someone(folk) || !in(cell, 0, world.cells() - 1) || !in(d, 0, 20) || !in(c, 0, 10) || !in(what, 0, 1)) return BAD;
        BigInteger above = chance(world, world.walls.size() - 1, folk, cell, d, c);
        BigInteger below = BigInteger.TEN.pow(world.walls.size());
        BigInteger common = above.gcd(below);
        return (what == 0 ? above : below).divide(common).intValueExact();
    }

    public int drawn(int n, int seed, int what) {
        if (world == null) return STATE;
        if (!in(n, 0, 60) || !in(seed, 1, 999999) || !in(what, 0, 1)) return BAD;
        World w = world.twin();
        BigInteger x = BigInteger.valueOf(seed);
        for (int d = 0; d < n; d++) {
            x = x.multiply(BigInteger.valueOf(16807)).mod(BigInteger.valueOf(2147483647L));
            int cell = x.mod(BigInteger.valueOf(w.cells())).intValue();
            if (!w.faded.remove(cell)) w.faded.add(cell);
            if (!w.walls.isEmpty() && x.mod(BigInteger.valueOf(5)).signum() == 0) {
                int wall = x.mod(BigInteger.valueOf(w.walls.size())).intValue();
                if (w.mayStand(w.walls.get(wall) + 1)) w.walls.set(wall, w.walls.get(wall) + 1);
            }
            w.pass();
        }
        return what == 0 ? w.anybody().size() : w.faded.size();
    }

    public int image(int k) {
        if (!in(k, 0, 1)) return BAD;
        if (world == null) return STATE;
        images[k] = world.twin();
        return 1;
    }

    public int restore(int k) {
        if (!in(k, 0, 1)) return BAD;
        if (images[k] == null) return STATE;
        world = images[k].twin();
        acts.clear();
        return 1;
    }

    public int kind(int folk) {
        return someone(folk) ? " ldsob".indexOf(world.folk.get(folk).sort) : BAD;
    }

    private static final int[] OVER = {-1, 0, 1, 1, 0, 4};

    public int as(int folk, int kind) {
        if (!someone(folk) || !in(kind, 0, 5)) return BAD;
        for (int k = kind(folk); k >= 0; k = OVER[k]) if (k == kind) return sound(folk);
        return found(3);
    }

    private static final int[][] BODIES = {{10, 11, 12, 0, 13, 14}, {20, 21, 24, 22, 23, 0}};

    private int asked(int folk, int what) {
        int k = kind(folk);
        while (BODIES[what][k] == 0) k = OVER[k];
        return body(BODIES[what][k], folk);
    }

    private int body(int number, int folk) {
        trace.add(number);
        Person p = world.folk.get(folk);
        return switch (number) {
            case 10 -> p.knows.size();
            case 11 -> body(10, folk) + asked(folk, 1);
            case 12 -> -body(11, folk);
            case 13 -> body(10, folk) - 100;
            case 14 -> body(13, folk) * 2;
            case 20 -> folk;
            case 21 -> body(20, folk) + p.house;
            case 22 -> body(21, folk) - 1000;
            case 23 -> body(20, folk) - asked(folk, 0);
            default -> body(21, folk) * 2;
        };
    }

    public int ask(int folk, int what) {
        if (!someone(folk) || !in(what, 0, 1)) return BAD;
        trace.clear();
        return asked(folk, what);
    }

    public int trace(int i) {
        return in(i, 0, Math.min(16, trace.size()) - 1) ? trace.get(i) : NONE;
    }

    public int count(int what) {
        if (!in(what, 0, 9)) return BAD;
        if (what == 0) {
            int there = 0;
            for (Items r : rows) if (r != null) there++;
            return there;
        }
        if (what == 8) return acts.size();
        if (what == 9) return tape.length();
        if (world == null) return 0;
        return switch (what) {
            case 1 -> world.cells();
            case 2 -> world.walls.size();
            case 3 -> world.folk.size();
            case 4 -> world.day;
            case 5 -> world.law;
            case 6 -> bits(world.faded);
            default -> bits(world.anybody());
        };
    }

    public int status() {
        return finding;
    }
}
