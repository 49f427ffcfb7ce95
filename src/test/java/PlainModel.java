import java.math.BigInteger;
import java.util.ArrayDeque;
import java.util.ArrayList;
import java.util.Deque;
import java.util.List;
import java.util.function.Consumer;
import java.util.regex.Matcher;
import java.util.regex.Pattern;

/**
 * The document read once more, by other means than the class uses (kinds as subclasses, copies,
 * a regular expression, all the ways counted one by one), to be asked beside it.
 */
final class PlainModel {
    private static class House implements Cloneable {
        int kind;
        int figure;
        int holds;
        int next = 9;
        boolean blocked;
        boolean wet;

        int lets() {
            return holds - holds / 2;
        }

        int adds() {
            return 1;
        }

        int stands() {
            return 0;
        }

        final int goes() {
            return blocked ? 0 : Math.min(lets(), Math.max(0, holds - stands()));
        }

        House copy() {
            House h = ofKind(kind, figure);
            h.holds = holds;
            h.next = next;
            h.blocked = blocked;
            h.wet = wet;
            return h;
        }
    }

    private static class Canon extends House {
        @Override
        int lets() {
            return holds;
        }

        @Override
        int adds() {
            return figure;
        }
    }

    private static class Miss extends House {
        @Override
        int lets() {
            return holds / 2;
        }

        @Override
        int adds() {
            return super.adds() + 2;
        }

        @Override
        int stands() {
            return 1;
        }
    }

    private static final class Pump extends House {
        @Override
        int lets() {
            return Math.min(figure, holds);
        }

        @Override
        int adds() {
            return 0;
        }
    }

    private static final class Sexton extends Canon {
        @Override
        int lets() {
            return Math.max(0, holds - figure);
        }

        @Override
        int adds() {
            return super.adds() / 2;
        }
    }

    private static final class Invalid extends Miss {
        @Override
        int lets() {
            return super.lets() / 2;
        }

        @Override
        int adds() {
            return super.adds() + figure;
        }

        @Override
        int stands() {
            return 3;
        }
    }

    private static House ofKind(int kind, int figure) {
        House h;
        switch (kind) {
            case 0: h = new House(); break;
            case 1: h = new Canon(); break;
            case 2: h = new Miss(); break;
            case 3: h = new Pump(); break;
            case 4: h = new Sexton(); break;
            case 5: h = new Invalid(); break;
            default: throw new IllegalStateException("kind " + kind);
        }
        h.kind = kind;
        h.figure = figure;
        return h;
    }

    private static final class World {
        final List<House> houses = new ArrayList<>();
        int cup;
        int hour;
        boolean dripped;

        World copy() {
            World w = new World();
            for (House h : houses) {
                w.houses.add(h.copy());
            }
            w.cup = cup;
            w.hour = hour;
            return w;
        }

        boolean has(int house) {
            return house >= 0 && house < houses.size();
        }

        void pour(int house, int v) {
            House h = houses.get(house);
            h.holds = Math.min(99, h.holds + v);
            h.wet |= v > 0;
        }

        World after(int n) {
            for (int i = 0; i < n; i++) {
                dripped = false;
                for (House h : houses) {
                    int goes = h.goes();
                    if (goes > 0) {
                        h.holds -= goes;
                        int comes = goes + h.adds();
                        if (has(h.next)) {
                            pour(h.next, comes);
                        } else {
                            cup = Math.min(9999, cup + comes);
                            dripped = true;
                        }
                    }
                }
                hour++;
            }
            return this;
        }

        int all() {
            return houses.stream().mapToInt(h -> h.holds).sum();
        }

        String told() {
            StringBuilder s = new StringBuilder();
            for (House h : houses) {
                s.append(h.holds).append(h.wet).append(h.blocked).append(h.next).append(' ');
            }
            return s.append(cup).toString();
        }
    }

    private static final Pattern GRAMMAR =
        Pattern.compile("(?:[nxd][0-9]{2};|b[0-9];|v[0-9]{3};|c;)+");

    private World now = new World();
    private World image;
    private final Deque<World> past = new ArrayDeque<>();
    private final StringBuilder letters = new StringBuilder();
    private final List<Integer> row = new ArrayList<>();
    private final int[] refused = new int[17];

    private int no(int number) {
        refused[10 - number]++;
        return number;
    }

    private static int range(int v, int least, int most) {
        return v < least ? -4 : v > most ? -6 : 0;
    }

    private World with(Consumer<World> change) {
        World w = now.copy();
        change.accept(w);
        return w;
    }

    private void keep() {
        past.addLast(now.copy());
        if (past.size() > 8) {
            past.removeFirst();
        }
    }

    int feed(int letter) {
        if (letter < 0) return no(-4);
        if (letter > 255 || letters.length() == 96) return no(-6);
        letters.append((char) letter);
        return letters.length();
    }

    int parish() {
        String text = letters.toString();
        letters.setLength(0);
        for (int i = 1; i <= text.length(); i++) {
            Matcher m = GRAMMAR.matcher(text.substring(0, i));
            if (!m.matches() && !m.hitEnd()) return -1000 - (i - 1);
        }
        if (!GRAMMAR.matcher(text).matches()) return -1000 - text.length();
        World w = now.copy();
        int place = 0;
        int told = 0;
        for (String statement : text.split(";")) {
            if (!tell(w, statement)) return -2000 - place;
            place += statement.length() + 1;
            told++;
        }
        now = w;
        past.clear();
        return told;
    }

    private static boolean tell(World w, String s) {
        int rest = s.length() > 1 ? Integer.parseInt(s.substring(1)) : 0;
        switch (s.charAt(0)) {
            case 'n':
                if (rest / 10 > 5 || w.houses.size() == 9) return false;
                w.houses.add(ofKind(rest / 10, rest % 10));
                return true;
            case 'x':
                if (!w.has(rest / 10) || rest % 10 <= rest / 10) return false;
                w.houses.get(rest / 10).next = rest % 10;
                return true;
            case 'b':
                if (!w.has(rest)) return false;
                w.houses.get(rest).blocked ^= true;
                return true;
            case 'v':
                if (!w.has(rest / 100)) return false;
                w.pour(rest / 100, rest % 100);
                return true;
            case 'c':
                w.cup = 0;
                return true;
            default:
                if (rest < 1 || rest > 60 || w.hour + rest > 999) return false;
                w.after(rest);
                return true;
        }
    }

    int houseOf(int house, int what) {
        if (!now.has(house)) return no(-1);
        if (what < 0 || what > 6) return no(-2);
        House h = now.houses.get(house);
        return new int[] {h.kind, h.figure, h.holds, h.next, h.blocked ? 1 : 0, h.wet ? 1 : 0, h.goes()}[what];
    }

    int house(int kind, int figure) {
        if (kind < 0 || kind > 5) return no(-2);
        if (figure < 0) return no(-4);
        if (figure > 9 || now.houses.size() == 9) return no(-6);
        past.clear();
        now.houses.add(ofKind(kind, figure));
        return now.houses.size() - 1;
    }

    int joins(int house, int next) {
        if (!now.has(house) || next < 0 || next > 9) return no(-1);
        if (next <= house) return no(-3);
        keep();
        int old = now.houses.get(house).next;
        now.houses.get(house).next = next;
        return old;
    }

    int blocks(int house) {
        if (!now.has(house)) return no(-1);
        keep();
        now.houses.get(house).blocked ^= true;
        return now.houses.get(house).blocked ? 1 : 0;
    }

    int pours(int house, int v) {
        if (!now.has(house)) return no(-1);
        if (range(v, 0, 99) != 0) return no(range(v, 0, 99));
        keep();
        now.pour(house, v);
        return now.houses.get(house).holds;
    }

    int empties() {
        int had = now.cup;
        now.cup = 0;
        past.clear();
        return had;
    }

    int hours(int n) {
        if (range(n, 1, 60) != 0) return no(range(n, 1, 60));
        if (now.hour + n > 999) return no(-6);
        keep();
        return now.after(n).cup;
    }

    int back() {
        if (past.isEmpty()) return no(-3);
        now = past.removeLast();
        return past.size();
    }

    int holdsIn(int house, int n) {
        if (!now.has(house)) return no(-1);
        if (range(n, 0, 60) != 0) return no(range(n, 0, 60));
        return now.copy().after(n).houses.get(house).holds;
    }

    int then(int n, int what) {
        if (range(n, 0, 60) != 0) return no(range(n, 0, 60));
        if (what < 0 || what > 1) return no(-2);
        return what == 0 ? now.copy().after(n).cup : now.copy().after(n).all();
    }

    int drip(int what) {
        if (what < 0 || what > 2) return no(-2);
        for (int n = 0; n <= (what == 2 ? 50 : 60); n++) {
            World w = now.copy().after(n);
            if (what == 0 && w.cup > now.cup) return n;
            if (what == 1 && w.all() == 0) return n;
            if (what == 2) {
                String at = w.told();
                boolean same = true;
                for (int i = 0; i < 10; i++) {
                    same &= w.after(1).told().equals(at);
                }
                if (same) return n;
            }
        }
        return -9;
    }

    int reaches(int house, int v) {
        if (!now.has(house)) return no(-1);
        if (range(v, 1, 99) != 0) return no(range(v, 1, 99));
        for (int n = 0; n <= 60; n++) {
            if (now.copy().after(n).houses.get(house).holds >= v) return n;
        }
        return -9;
    }

    int pour(int v, int n, int what) {
        if (v < 1 || n < 0) return no(-4);
        if (v > 99 || n > 60) return no(-6);
        if (what < 0 || what > 1) return no(-2);
        int[] cups = new int[now.houses.size()];
        int most = -9;
        for (int i = 0; i < cups.length; i++) {
            int house = i;
            cups[i] = with(w -> w.pour(house, v)).after(n).cup;
            most = Math.max(most, cups[i]);
        }
        if (what == 1) return most;
        for (int i = 0; i < cups.length; i++) {
            if (cups[i] == most) return i;
        }
        return -9;
    }

    int least(int w, int n) {
        if (w < 0 || n < 0) return no(-4);
        if (w > 999 || n > 60) return no(-6);
        for (int i = 0; i <= 99 && !now.houses.isEmpty(); i++) {
            int v = i;
            if (with(x -> x.pour(0, v)).after(n).cup >= w) return v;
        }
        return -9;
    }

    private int blockedBits() {
        int bits = 0;
        for (int i = 0; i < now.houses.size(); i++) {
            bits += now.houses.get(i).blocked ? 1 << i : 0;
        }
        return bits;
    }

    private static void set(World w, int bits, boolean to) {
        for (int i = 0; i < w.houses.size(); i++) {
            if ((bits & 1 << i) != 0) {
                w.houses.get(i).blocked = to;
            }
        }
    }

    int clearing(int n) {
        if (range(n, 0, 60) != 0) return no(range(n, 0, 60));
        int[] cups = new int[512];
        int most = -1;
        for (int bits = 0; bits < 512; bits++) {
            int clear = bits;
            cups[bits] = (bits & ~blockedBits()) != 0 ? -1 : with(w -> set(w, clear, false)).after(n).cup;
            most = Math.max(most, cups[bits]);
        }
        for (int size = 0; size <= 9; size++) {
            for (int bits = 0; bits < 512; bits++) {
                if (Integer.bitCount(bits) == size && cups[bits] == most) return bits;
            }
        }
        throw new IllegalStateException();
    }

    int stop(int n) {
        if (range(n, 0, 60) != 0) return no(range(n, 0, 60));
        int least = now.copy().after(n).cup;
        int which = -9;
        for (int i = now.houses.size() - 1; i >= 0; i--) {
            int bit = 1 << i;
            if (now.houses.get(i).blocked) continue;
            int cup = with(w -> set(w, bit, true)).after(n).cup;
            if (cup < least || cup == least && which >= 0) {
                least = cup;
                which = i;
            }
        }
        return which;
    }

    int join(int n) {
        if (range(n, 0, 60) != 0) return no(range(n, 0, 60));
        int most = now.copy().after(n).cup;
        int which = -9;
        for (int i = 0; i < now.houses.size(); i++) {
            for (int j = i + 1; j <= 9; j++) {
                int from = i;
                int to = j;
                if (j < 9 && !now.has(j)) continue;
                int cup = with(w -> w.houses.get(from).next = to).after(n).cup;
                if (cup > most) {
                    most = cup;
                    which = 10 * i + j;
                }
            }
        }
        return which;
    }

    private List<Integer> wayOf(int house) {
        List<Integer> way = new ArrayList<>();
        for (int at = house; now.has(at); at = now.houses.get(at).next) {
            way.add(at);
        }
        return way;
    }

    int way(int house, int what) {
        if (!now.has(house)) return no(-1);
        if (what < 0 || what > 2) return no(-2);
        int bits = 0;
        int blocked = 0;
        for (int at : wayOf(house)) {
            bits += 1 << at;
            blocked += now.houses.get(at).blocked ? 1 : 0;
        }
        return what == 0 ? wayOf(house).size() : what == 1 ? blocked : bits;
    }

    private boolean told(World w) {
        for (int i = 0; i < row.size(); i++) {
            if (w.copy().after(i).cup != row.get(i)) return false;
        }
        return true;
    }

    int whichBlocked() {
        int bits = 0;
        for (int i = 0; i < now.houses.size(); i++) {
            int bit = 1 << i;
            if ((blockedBits() & bit) == 0 && told(with(w -> set(w, bit, true)))) bits += bit;
        }
        return bits;
    }

    int wasPoured(int house, int what) {
        if (!now.has(house)) return no(-1);
        if (what < 0 || what > 2) return no(-2);
        List<Integer> all = new ArrayList<>();
        for (int i = 0; i <= 99; i++) {
            int v = i;
            if (told(with(w -> w.pour(house, v)))) all.add(v);
        }
        if (what == 0) return all.size();
        return all.isEmpty() ? -9 : all.get(what == 1 ? 0 : all.size() - 1);
    }

    private static void turn(World w, int house, int kind, int figure) {
        House old = w.houses.get(house);
        House made = ofKind(kind, figure);
        made.holds = old.holds;
        made.next = old.next;
        made.blocked = old.blocked;
        made.wet = old.wet;
        w.houses.set(house, made);
    }

    int whatKind(int house, int what) {
        if (!now.has(house)) return no(-1);
        if (what < 0 || what > 1) return no(-2);
        House h = now.houses.get(house);
        int bits = 0;
        for (int i = 0; i < (what == 0 ? 6 : 10); i++) {
            int kind = what == 0 ? i : h.kind;
            int figure = what == 0 ? h.figure : i;
            if (told(with(w -> turn(w, house, kind, figure)))) bits += 1 << i;
        }
        return bits;
    }

    int two(int one, int other, int n) {
        if (!now.has(one) || !now.has(other) || one == other) return no(-1);
        if (range(n, 0, 30) != 0) return no(range(n, 0, 30));
        int[][] a = new int[2][2];
        int[][] b = new int[2][2];
        for (int i = 0; i < 4; i++) {
            int bits = (i / 2) * (1 << one) + (i % 2) * (1 << other);
            World w = with(x -> set(x, bits, true)).after(n);
            a[i / 2][i % 2] = w.houses.get(one).holds - 3 * (i / 2);
            b[i / 2][i % 2] = w.houses.get(other).holds - 3 * (i % 2);
        }
        for (int i = 0; i < 2; i++) {
            for (int j = 0; j < 2; j++) {
                if (a[1 - i][j] <= a[i][j] && b[i][1 - j] <= b[i][j]) return 10 * i + j;
            }
        }
        return -9;
    }

    long blocked(int n, int t, int v, int part) {
        if (n < 0 || v < 0 || t < 2) return 4000000000000000000L - no(-4);
        if (n > 7 || t > 20 || v > 999) return 4000000000000000000L - no(-6);
        if (part < 0 || part > 1) return 4000000000000000000L - no(-2);
        BigInteger above = BigInteger.ZERO;
        for (int ways = 0; ways < 1 << n; ways++) {
            World w = now.copy();
            BigInteger weight = BigInteger.ONE;
            for (int i = 0; i < n; i++) {
                if ((ways >> i & 1) == 0) {
                    w.after(1);
                    weight = weight.multiply(BigInteger.valueOf(t - 1));
                }
            }
            if (w.cup >= v) above = above.add(weight);
        }
        return part(above, BigInteger.valueOf(t).pow(n), part);
    }

    private static long part(BigInteger above, BigInteger below, int part) {
        if (above.signum() == 0) return part;
        return (part == 0 ? above : below).divide(above.gcd(below)).longValueExact();
    }

    int shares(int n, int what) {
        if (range(n, 1, 9) != 0) return no(range(n, 1, 9));
        if (what < 0 || what > 1) return no(-2);
        return what == 0 ? now.cup / n : now.cup % n;
    }

    int fullest(int what) {
        if (what < 0 || what > 5) return no(-2);
        int most = now.houses.stream().mapToInt(h -> h.holds).max().orElse(-9);
        int fullest = -9;
        int pumps = 0;
        int dries = 0;
        int deep = 0;
        int twins = 0;
        for (int i = now.houses.size() - 1; i >= 0; i--) {
            House h = now.houses.get(i);
            fullest = h.holds == most ? i : fullest;
            pumps += wayOf(i).size() == 1 ? 1 << i : 0;
            dries += h.wet ? 0 : 1 << i;
            deep = Math.max(deep, wayOf(i).size());
            for (int j = 0; j < i; j++) {
                twins += now.houses.get(j).holds == h.holds ? 1 : 0;
            }
        }
        StringBuilder drips = new StringBuilder();
        World w = now.copy();
        for (int n = 0; n < 60; n++) {
            drips.append(w.after(1).dripped ? ' ' : '-');
        }
        int still = 0;
        for (String run : drips.toString().split(" ")) {
            still = Math.max(still, run.length());
        }
        return new int[] {fullest, pumps, dries, deep, still, twins}[what];
    }

    int into(int house) {
        if (!now.has(house)) return no(-1);
        return (int) now.houses.stream().filter(h -> h.next == house).count();
    }

    long mean(int part) {
        if (part < 0 || part > 1) return 4000000000000000000L - no(-2);
        return part(BigInteger.valueOf(now.all()), BigInteger.valueOf(now.houses.size()), part);
    }

    int strong(int n) {
        if (range(n, 0, 60) != 0) return 1000000000 - no(range(n, 0, 60));
        return with(w -> set(w, 511, false)).after(n).cup - now.copy().after(n).cup;
    }

    int kinds(int kind) {
        if (kind < 0 || kind > 5) return no(-2);
        return (int) now.houses.stream().filter(h -> h.kind == kind).count();
    }

    int turn(int house, int n) {
        if (!now.has(house)) return no(-1);
        if (range(n, 0, 60) != 0) return no(range(n, 0, 60));
        int figure = now.houses.get(house).figure;
        int most = -1;
        int best = -1;
        for (int i = 5; i >= 0; i--) {
            int kind = i;
            int cup = with(w -> turn(w, house, kind, figure)).after(n).cup;
            if (cup >= most) {
                most = cup;
                best = i;
            }
        }
        return best;
    }

    int row(int v) {
        if (v < 0) return no(-4);
        if (v > 99 || row.size() == 12) return no(-6);
        row.add(v);
        return row.size();
    }

    int judge() {
        List<Integer> told = new ArrayList<>(row);
        row.clear();
        for (int i = 0; i < told.size(); i++) {
            if (i == now.houses.size() || now.houses.get(i).holds != told.get(i)) return i;
        }
        return -9;
    }

    int clear() {
        int had = row.size();
        row.clear();
        return had;
    }

    int lots(int n, int z, int what) {
        if (range(n, 1, 20) != 0) return no(range(n, 1, 20));
        if (what < 0 || what > 1) return no(-2);
        if (now.houses.isEmpty()) return 0;
        long modulus = 1L << 32;
        long seed = Math.floorMod((long) z, modulus);
        int cups = 0;
        int holds = 0;
        for (int week = 0; week < n; week++) {
            World w = now.copy();
            for (int i = 0; i < 3; i++) {
                seed = (seed * 1103515245L + 12345) % modulus;
                int house = (int) (seed % (1L << 31) / 65536) % now.houses.size();
                seed = (seed * 1103515245L + 12345) % modulus;
                w.pour(house, (int) (seed % (1L << 31) / 65536) % 40);
            }
            w.after(12);
            cups += w.cup - now.cup;
            holds += w.all();
        }
        return what == 0 ? cups : holds;
    }

    int image() {
        image = now.copy();
        return now.hour;
    }

    int restore() {
        if (image == null) return no(-3);
        now = image.copy();
        past.clear();
        return now.hour;
    }

    int count(int what) {
        switch (what) {
            case 0: return now.houses.size();
            case 1: return now.hour;
            case 2: return now.cup;
            case 3: return blockedBits();
            case 4: return now.houses.stream().filter(h -> h.wet).mapToInt(h -> 1 << now.houses.indexOf(h)).sum();
            case 5: return now.all();
            case 6: return letters.length();
            case 7: return row.size();
            case 8: return past.size();
            default: return what >= 11 && what <= 16 ? refused[what] : -9;
        }
    }
}
