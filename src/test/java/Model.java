import java.math.BigInteger;
import java.util.ArrayDeque;
import java.util.ArrayList;
import java.util.Comparator;
import java.util.Deque;
import java.util.List;

/**
 * The document once more, slow and by other ways than the program: tokens first and grammar then,
 * all rows by recursion and minute by minute, odds by all that may happen.
 */
final class Model {
    static final int BAD = -1, STATE = -2, FULL = -3, NONE = -9, NO = -1000000;

    private static final class Call {
        int number, fall, from, to, length, rank, how, left, waited;

        Call copy() {
            Call c = new Call();
            c.number = number;
            c.fall = fall;
            c.from = from;
            c.to = to;
            c.length = length;
            c.rank = rank;
            c.how = how;
            c.left = left;
            c.waited = waited;
            return c;
        }

        boolean has(int line) {
            return from == line || to == line;
        }
    }

    private static final class World {
        int lines = 2, cords = 1, minute = 0;
        int[] hole = {0, 1, 2, 3, 4, 5};
        List<Call> calls = new ArrayList<>();

        World copy() {
            World w = new World();
            w.lines = lines;
            w.cords = cords;
            w.minute = minute;
            w.hole = hole.clone();
            for (Call c : calls) {
                w.calls.add(c.copy());
            }
            return w;
        }

        List<Call> those(int how) {
            List<Call> list = new ArrayList<>();
            for (Call c : calls) {
                if (c.how == how) {
                    list.add(c);
                }
            }
            return list;
        }

        int bits(int how) {
            int bits = 0;
            for (Call c : those(how)) {
                bits += 1 << c.number;
            }
            return bits;
        }

        int free() {
            return cords - those(2).size();
        }

        Call talkerOn(int line) {
            for (Call c : those(2)) {
                if (c.has(line)) {
                    return c;
                }
            }
            return null;
        }

        boolean linesFree(Call c) {
            return talkerOn(c.from) == null && talkerOn(c.to) == null;
        }

        boolean tryPlug(Call c) {
            if (c.how != 1 || free() <= 0 || !linesFree(c)) {
                return false;
            }
            c.how = 2;
            c.left = c.length;
            return true;
        }

        void pass() {
            for (Call c : calls) {
                if (c.how == 1) {
                    c.waited++;
                }
                if (c.how == 2 && --c.left == 0) {
                    c.how = 3;
                }
            }
            minute++;
            fall();
        }

        void fall() {
            for (Call c : calls) {
                if (c.fall == minute) {
                    c.how = 1;
                }
            }
        }

        boolean cross(Call x, Call y) {
            int a = Math.min(hole[x.from], hole[x.to]), b = Math.max(hole[x.from], hole[x.to]);
            int c = Math.min(hole[y.from], hole[y.to]), d = Math.max(hole[y.from], hole[y.to]);
            return a < c && c < b && b < d || c < a && a < d && d < b;
        }

        int inAll(int[] holes) {
            int sum = 0;
            for (Call c : calls) {
                int far = holes[c.from] - holes[c.to];
                sum += far < 0 ? -far : far;
            }
            return sum;
        }
    }

    private StringBuilder text = new StringBuilder();
    private World now = new World();
    private final Deque<World> past = new ArrayDeque<>();
    private final World[] images = new World[2];
    private long trace = 0;

    int type(int letter) {
        if (letter < 0 || letter > 255) {
            return BAD;
        }
        if (text.length() == 200) {
            return FULL;
        }
        text.append((char) letter);
        return text.length();
    }

    int clear() {
        int had = text.length();
        text = new StringBuilder();
        return had;
    }

    // ---- the text: a token is {place, sign, value}; sign 'n' is a number, '?' what is none

    private static List<int[]> tokens(String s) {
        List<int[]> list = new ArrayList<>();
        int i = 0;
        while (i < s.length()) {
            char sign = s.charAt(i);
            if (sign == ' ') {
                i++;
            } else if (sign >= '0' && sign <= '9') {
                int from = i;
                while (i < s.length() && s.charAt(i) >= '0' && s.charAt(i) <= '9') {
                    i++;
                }
                String digits = s.substring(from, i);
                boolean good = digits.length() == 1 || digits.length() == 2 && sign != '0';
                list.add(new int[] {from, good ? 'n' : '?', good ? Integer.parseInt(digits) : 0});
            } else {
                list.add(new int[] {i, "lxhc;".indexOf(sign) >= 0 ? sign : '?', 0});
                i++;
            }
        }
        list.add(new int[] {s.length(), 'e', 0});
        return list;
    }

    int board() {
        World w = new World();
        List<int[]> tokens = tokens(text.toString());
        int at = 0, items = 0;
        boolean cordsTold = false;
        while (tokens.get(at)[1] != 'e') {
            int[] head = tokens.get(at++);
            int sign = head[1];
            if ("lxhc".indexOf(sign) < 0 || sign == 'l' && items > 0 || sign == 'x' && cordsTold
                    || sign == 'c' && w.calls.size() == 7) {
                return -10 - head[0];
            }
            int top = w.lines - 1;
            int[] least = sign == 'l' ? new int[] {2} : sign == 'x' ? new int[] {1}
                    : sign == 'h' ? new int[] {0, 0} : new int[] {0, 0, 0, 1, 0};
            int[] most = sign == 'l' ? new int[] {6} : sign == 'x' ? new int[] {4}
                    : sign == 'h' ? new int[] {top, top} : new int[] {40, top, top, 20, 9};
            int[] v = new int[least.length];
            for (int i = 0; i < v.length; i++) {
                int[] t = tokens.get(at++);
                v[i] = t[2];
                if (t[1] != 'n' || v[i] < least[i] || v[i] > most[i]
                        || sign == 'c' && i == 2 && v[2] == v[1]) {
                    return -10 - t[0];
                }
            }
            int[] last = tokens.get(at++);
            if (last[1] != ';') {
                return -10 - last[0];
            }
            items++;
            cordsTold |= sign == 'x';
            tell(w, sign, v);
        }
        now = w;
        now.fall();
        past.clear();
        images[0] = null;
        images[1] = null;
        text = new StringBuilder();
        return items;
    }

    private static void tell(World w, int sign, int[] v) {
        if (sign == 'l') {
            w.lines = v[0];
        } else if (sign == 'x') {
            w.cords = v[0];
        } else if (sign == 'h') {
            int had = w.hole[v[0]];
            int who = 0;
            while (w.hole[who] != v[1]) {
                who++;
            }
            w.hole[who] = had;
            w.hole[v[0]] = v[1];
        } else {
            Call c = new Call();
            c.number = w.calls.size();
            c.fall = v[0];
            c.from = v[1];
            c.to = v[2];
            c.length = v[3];
            c.rank = v[4];
            w.calls.add(c);
        }
    }

    private boolean noLine(int l) {
        return l < 0 || l >= now.lines;
    }

    private boolean noCall(int c) {
        return c < 0 || c >= now.calls.size();
    }

    int line(int l, int what) {
        if (noLine(l) || what < 0 || what > 1) {
            return BAD;
        }
        Call talker = now.talkerOn(l);
        return what == 0 ? now.hole[l] : talker == null ? NONE : talker.number;
    }

    int call(int n, int what) {
        if (noCall(n) || what < 0 || what > 7) {
            return BAD;
        }
        Call c = now.calls.get(n);
        return new int[] {c.fall, c.from, c.to, c.length, c.rank, c.how,
            c.how == 2 ? c.left : 0, c.waited}[what];
    }

    int now(int what) {
        if (what < 0 || what > 5) {
            return BAD;
        }
        int crossed = 0;
        for (Call x : now.those(2)) {
            for (Call y : now.those(2)) {
                if (x.number < y.number && now.cross(x, y)) {
                    crossed++;
                }
            }
        }
        return new int[] {now.minute, now.bits(1), now.bits(2), now.free(), crossed,
            past.size()}[what];
    }

    private void remember(World before) {
        past.push(before);
        if (past.size() > 10) {
            past.removeLast();
        }
    }

    int minute() {
        if (now.minute == 99) {
            return STATE;
        }
        remember(now.copy());
        now.pass();
        return now.minute;
    }

    int plugs(int c) {
        if (noCall(c)) {
            return BAD;
        }
        World before = now.copy();
        if (!now.tryPlug(now.calls.get(c))) {
            return STATE;
        }
        remember(before);
        return now.free();
    }

    int pulls(int n) {
        if (noCall(n)) {
            return BAD;
        }
        Call c = now.calls.get(n);
        if (c.how != 2) {
            return STATE;
        }
        remember(now.copy());
        c.how = 4;
        return c.left;
    }

    int swaps(int a, int b) {
        if (noLine(a) || noLine(b) || a == b) {
            return BAD;
        }
        if (now.talkerOn(a) != null || now.talkerOn(b) != null) {
            return STATE;
        }
        remember(now.copy());
        int had = now.hole[a];
        now.hole[a] = now.hole[b];
        now.hole[b] = had;
        return now.hole[a];
    }

    int undo() {
        if (past.isEmpty()) {
            return STATE;
        }
        now = past.pop();
        return past.size();
    }

    // ---- a day by rules

    private static void plugByRule(World w, int rule) {
        List<Call> queue = w.those(1);
        Comparator<Call> order = rule == 0 ? Comparator.comparing(c -> c.fall)
                : rule == 1 ? Comparator.comparing(c -> 9 - c.rank)
                : Comparator.comparing(c -> c.length);
        queue.sort(order.thenComparing(c -> c.number));
        for (Call c : queue) {
            w.tryPlug(c);
        }
    }

    int byRule(int rule, int n, int what) {
        if (rule < 0 || rule > 2 || n < 0 || n > 60 || what < 0 || what > 2) {
            return BAD;
        }
        World w = now.copy();
        int first = NONE;
        for (int m = 0; m < n; m++) {
            plugByRule(w, rule);
            List<Call> talkers = w.those(2);
            w.pass();
            for (Call c : talkers) {
                if (first == NONE && c.how == 3) {
                    first = c.number;
                }
            }
        }
        int waited = 0;
        for (Call c : w.calls) {
            waited += c.waited;
        }
        return what == 0 ? w.those(3).size() : what == 1 ? waited : first;
    }

    int enough(int rule) {
        if (rule < 0 || rule > 2) {
            return BAD;
        }
        for (int cords = 1; cords <= 4; cords++) {
            if (isEnough(rule, cords)) {
                return cords;
            }
        }
        return NONE;
    }

    private boolean isEnough(int rule, int cords) {
        World w = now.copy();
        w.cords = cords;
        for (int m = 0; m < 60; m++) {
            plugByRule(w, rule);
            for (Call c : w.those(1)) {
                if (w.linesFree(c)) {
                    return false;
                }
            }
            w.pass();
        }
        return true;
    }

    private int bestSum;
    private List<Integer> bestRow;

    int bestRow(int k) {
        if (k < -1) {
            return BAD;
        }
        bestSum = Integer.MAX_VALUE;
        bestRow = new ArrayList<>();
        List<Integer> rest = new ArrayList<>();
        for (Call c : now.those(1)) {
            rest.add(c.number);
        }
        tryRows(new ArrayList<>(), rest);
        return k == -1 ? bestSum : k < bestRow.size() ? bestRow.get(k) : -5;
    }

    private void tryRows(List<Integer> row, List<Integer> rest) {
        if (rest.isEmpty()) {
            int sum = waitedBy(row);
            if (sum < bestSum) {
                bestSum = sum;
                bestRow = new ArrayList<>(row);
            }
            return;
        }
        for (int i = 0; i < rest.size(); i++) {
            List<Integer> longer = new ArrayList<>(row);
            longer.add(rest.get(i));
            List<Integer> fewer = new ArrayList<>(rest);
            fewer.remove(i);
            tryRows(longer, fewer);
        }
    }

    private int waitedBy(List<Integer> row) {
        World w = now.copy();
        for (int m = 0; m < 30; m++) {
            for (int c : row) {
                w.tryPlug(w.calls.get(c));
            }
            w.pass();
        }
        int sum = 0;
        for (int c : row) {
            sum += w.calls.get(c).waited;
        }
        return sum;
    }

    int cutFor(int n) {
        if (noCall(n)) {
            return BAD;
        }
        if (now.calls.get(n).how != 1) {
            return STATE;
        }
        int best = 0;
        long bestPrice = Long.MAX_VALUE;
        for (int bits = 0; bits < 128; bits++) {
            World w = now.copy();
            long price = bits;
            boolean possible = true;
            for (int c = 0; c < 7; c++) {
                if ((bits & 1 << c) != 0) {
                    possible &= c < w.calls.size() && w.calls.get(c).how == 2;
                    if (possible) {
                        price += 1000000L + 1000L * w.calls.get(c).left;
                        w.calls.get(c).how = 4;
                    }
                }
            }
            if (possible && w.tryPlug(w.calls.get(n)) && price < bestPrice) {
                bestPrice = price;
                best = bits;
            }
        }
        return best;
    }

    // ---- holes

    int longCords() {
        return now.inAll(now.hole);
    }

    int change() {
        int best = NONE, shortest = Integer.MAX_VALUE;
        for (int pair = 1; pair < 60; pair++) {
            int a = pair / 10, b = pair % 10;
            if (a < b && b < now.lines) {
                int[] holes = now.hole.clone();
                holes[a] = now.hole[b];
                holes[b] = now.hole[a];
                if (now.inAll(holes) < shortest) {
                    shortest = now.inAll(holes);
                    best = pair;
                }
            }
        }
        return shortest < longCords() ? best : NONE;
    }

    private int[] bestHoles;

    int bestHoles(int l) {
        if (l != -1 && noLine(l)) {
            return BAD;
        }
        bestHoles = null;
        tryHoles(new int[now.lines], 0);
        return l == -1 ? now.inAll(bestHoles) : bestHoles[l];
    }

    private void tryHoles(int[] holes, int l) {
        if (l == now.lines) {
            if (bestHoles == null || now.inAll(holes) < now.inAll(bestHoles)) {
                bestHoles = holes.clone();
            }
            return;
        }
        for (int h = 0; h < now.lines; h++) {
            boolean taken = false;
            for (int i = 0; i < l; i++) {
                taken |= holes[i] == h;
            }
            if (!taken) {
                holes[l] = h;
                tryHoles(holes, l + 1);
            }
        }
    }

    int atOnce(int what) {
        if (what < 0 || what > 1) {
            return BAD;
        }
        int[] falls = new int[41];
        for (Call c : now.calls) {
            falls[c.fall]++;
        }
        int best = 0;
        for (int m = 40; m >= 0; m--) {
            best = falls[m] >= falls[best] ? m : best;
        }
        return what == 0 ? best : falls[best];
    }

    int under(int n) {
        if (noCall(n)) {
            return BAD;
        }
        int bits = 0;
        for (Call c : now.those(2)) {
            if (now.cross(now.calls.get(n), c)) {
                bits += 1 << c.number;
            }
        }
        return bits;
    }

    int odds(int l, int p, int m, int what) {
        if (noLine(l) || p < 0 || p > 10 || m < 0 || m > 40 || what < 0 || what > 1) {
            return BAD;
        }
        List<Call> talkers = now.those(2);
        long free = 0, all = 1;
        for (int i = 0; i < talkers.size(); i++) {
            all *= 10;
        }
        for (int longer = 0; longer < 1 << talkers.size(); longer++) {
            long weight = 1;
            boolean engaged = false;
            for (int i = 0; i < talkers.size(); i++) {
                boolean twice = (longer & 1 << i) != 0;
                weight *= twice ? p : 10 - p;
                engaged |= talkers.get(i).has(l) && m < talkers.get(i).left * (twice ? 2 : 1);
            }
            free += engaged ? 0 : weight;
        }
        long divisor = BigInteger.valueOf(free).gcd(BigInteger.valueOf(all)).longValue();
        return (int) ((what == 0 ? free : all) / divisor);
    }

    // ---- kinds, images

    int rate(int kind, int n) {
        if (kind < 0 || kind > 5 || noCall(n)) {
            return NO;
        }
        return body(kind, now.calls.get(n));
    }

    private int body(int kind, Call c) {
        trace += new int[] {1, 10, 100, 1000, 10000, 100000}[kind];
        if (kind == 0) {
            return c.rank;
        }
        int up = body(new int[] {0, 0, 0, 1, 2, 0}[kind], c);
        return kind == 1 ? up + c.waited : kind == 2 ? up - c.length : kind == 3 ? up + up
                : kind == 4 ? up + c.number : up + Math.abs(now.hole[c.from] - now.hole[c.to]);
    }

    int keep(int image) {
        if (image != 0 && image != 1) {
            return BAD;
        }
        images[image] = now.copy();
        return now.minute;
    }

    int back(int image) {
        if (image != 0 && image != 1) {
            return BAD;
        }
        if (images[image] == null) {
            return STATE;
        }
        now = images[image].copy();
        past.clear();
        return now.minute;
    }

    int count(int what) {
        return what == 0 ? now.lines : what == 1 ? now.cords : what == 2 ? now.calls.size()
                : what == 3 ? text.length() : BAD;
    }

    long trace() {
        return trace;
    }
}
