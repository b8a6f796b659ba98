import java.util.ArrayList;
import java.util.Arrays;
import java.util.Collections;
import java.util.HashMap;
import java.util.List;
import java.util.Map;

/**
 * The document once more, in the slowest and plainest way (lists, recursion, all ways tried), so
 * that its answers can be set against those of IronedQuarrels call by call.
 */
final class Model {
    private static final int BAD = -1, FULL = -2, FINDING = -3, STATE = -4, NONE = -9;

    private static final class Refused extends RuntimeException {
        private static final long serialVersionUID = 1L;
        private final int answer;

        Refused(int answer) {
            super(null, null, false, false);
            this.answer = answer;
        }
    }

    private record Saying(int kind, int who, int toWhom, int topic, int weight, int answers) {
    }

    private static final class State {
        final List<Saying> sayings = new ArrayList<>();
        final List<Boolean> said = new ArrayList<>();
        final List<Integer> deeds = new ArrayList<>();

        State twin() {
            State twin = new State();
            twin.sayings.addAll(sayings);
            twin.said.addAll(said);
            twin.deeds.addAll(deeds);
            return twin;
        }
    }

    private final List<List<Integer>> rows = new ArrayList<>(Collections.nCopies(6, null));
    private final List<List<Integer>> texts = new ArrayList<>(Collections.nCopies(4, null));
    private final State[] kept = new State[3];
    private final int[] often = new int[6];
    private State now = new State();
    private int latest = 0;
    private int asked = 0;
    private long upper = 0;
    private long lower = 1;

    /** Answers one call by its name; the argument list has the call's length. */
    long call(String name, int... a) {
        try {
            return answer(name, a);
        } catch (Refused refused) {
            return refused.answer;
        }
    }

    private long answer(String name, int[] a) {
        switch (name) {
            case "row": return makeRow(rows, 40, 0, a[0], a[1]);
            case "text": return makeRow(texts, 80, 32, a[0], a[1]);
            case "lay": return tells(place(rows, a[0], a[1]).set(a[1], a[2]));
            case "at": return tells(place(rows, a[0], a[1]).get(a[1]));
            case "tear": shelf(rows, a[0]); rows.set(a[0], null); return 1;
            case "copy": return copy(a[0], a[1], a[2], a[3], a[4]);
            case "mean": return mean(a[0]);
            case "put": return 1000 + place(texts, a[0], a[1]).set(a[1], (int) (byte) a[2]);
            case "fault": return read(shelf(texts, a[0]), new State());
            case "heap": return heap(a[0]);
            case "saying": refuse(!in(a[1], 8), BAD); return tells(fact(known(a[0]), a[1]));
            case "mark": return mark(a[0], a[1]);
            case "say": return say(a[0], a[1], a[2], a[3]);
            case "unsay": return unsay(a[0]);
            case "undo": return undo(a[0]);
            case "said": asked = free(bitsSaid()); return bitsSaid();
            case "keep": return keep(a[0]);
            case "on": return on(a[0]);
            default: return answerMore(name, a);
        }
    }

    private long answerMore(String name, int[] a) {
        switch (name) {
            case "leans": return bits(chain(known(a[0])));
            case "feeds": return feeds(known(a[0]));
            case "first": asked = chain(known(a[0])).size(); return beginning(a[0]);
            case "bundles": return bundles();
            case "longest": return longest(a[0]);
            case "cheapest": return cheapest(a[0]);
            case "orders": upper = waysEnding(bitsSaid(), -1, new HashMap<>()); lower = 1; return 1;
            case "judge": return judge(a[0]);
            case "last": return last(a[0]);
            case "end": return end(a[0], a[1]);
            case "rings": asked = Integer.bitCount(speakers()); return rings(63);
            case "away": return away();
            case "whose": refuse(now.sayings.get(known(a[0])).kind != 2, 3, FINDING); return whose(a[0]);
            case "wash": return wash(0);
            case "bill": return bill(a[0]);
            case "colour": return colour(known(a[0]), a[1]);
            case "lots": return lots(a[0], a[1]);
            case "asked": return asked;
            case "upper": return upper;
            case "lower": return lower;
            case "count": return count(a[0]);
            case "finding": return latest;
            case "findings": refuse(a[0] < 1 || a[0] > 5, BAD); return often[a[0]];
            case "digest": return digest();
            default: throw new IllegalArgumentException(name);
        }
    }

    // ---- refusals

    private static boolean in(int v, int bound) {
        return v >= 0 && v < bound;
    }

    private static void refuse(boolean so, int answer) {
        if (so) {
            throw new Refused(answer);
        }
    }

    private void refuse(boolean so, int finding, int answer) {
        if (so) {
            latest = finding;
            often[finding]++;
            throw new Refused(answer);
        }
    }

    private int known(int i) {
        refuse(!in(i, now.sayings.size()), BAD);
        return i;
    }

    private List<Integer> shelf(List<List<Integer>> all, int r) {
        refuse(!in(r, all.size()), BAD);
        refuse(all.get(r) == null, 1, FINDING);
        return all.get(r);
    }

    private List<Integer> place(List<List<Integer>> all, int r, int i) {
        List<Integer> one = shelf(all, r);
        refuse(!in(i, one.size()), 2, FINDING);
        return one;
    }

    private int tells(int v) {
        asked = v;
        return 1;
    }

    // ---- rows, texts

    private int makeRow(List<List<Integer>> all, int most, int v, int r, int n) {
        refuse(!in(r, all.size()) || n > most, BAD);
        refuse(n < 0, 5, FINDING);
        all.set(r, new ArrayList<>(Collections.nCopies(n, v)));
        return n;
    }

    private int copy(int r, int i, int to, int j, int n) {
        refuse(!in(r, 6) || !in(to, 6), BAD);
        refuse(n < 0, 5, FINDING);
        List<Integer> from = shelf(rows, r);
        List<Integer> into = shelf(rows, to);
        refuse(i < 0 || j < 0 || (long) i + n > from.size() || (long) j + n > into.size(), 2, FINDING);
        List<Integer> taken = new ArrayList<>(from.subList(i, i + n));
        for (int k = 0; k < n; k++) {
            into.set(j + k, taken.get(k));
        }
        return 1;
    }

    private int mean(int r) {
        List<Integer> row = shelf(rows, r);
        refuse(row.isEmpty(), 4, FINDING);
        return tells((int) (row.stream().mapToLong(Integer::longValue).sum() / row.size()));
    }

    /** A machine that goes sign by sign; -9, or the place at which it can't go on. */
    private int read(List<Integer> text, State into) {
        List<Integer> item = new ArrayList<>();
        for (int place = 0; place < text.size(); place++) {
            int sign = text.get(place);
            if (item.isEmpty() && sign == ' ') {
                continue;
            }
            int value = valueAs(item.size(), sign, into.sayings.size());
            boolean twice = item.size() == 2 && value == item.get(1);
            if (value == BAD || twice || into.sayings.size() == 12) {
                return place;
            }
            item.add(value);
            if (item.size() == 6) {
                into.sayings.add(new Saying(item.get(0), item.get(1), item.get(2), item.get(3), item.get(4),
                        item.get(5)));
                into.said.add(true);
                item.clear();
            }
        }
        return item.isEmpty() ? NONE : text.size();
    }

    private static int valueAs(int part, int sign, int there) {
        switch (part) {
            case 0: return sign < 1 ? BAD : "sotpyc".indexOf(sign);
            case 1:
            case 2:
            case 3: return sign >= '0' && sign <= '5' ? sign - '0' : BAD;
            case 4: return sign >= '1' && sign <= '9' ? sign - '0' : BAD;
            default: return sign == '-' ? NONE : sign >= 'A' && sign < 'A' + there ? sign - 'A' : BAD;
        }
    }

    private int heap(int t) {
        State fresh = new State();
        refuse(read(shelf(texts, t), fresh) != NONE, STATE);
        now = fresh;
        Arrays.fill(kept, null);
        return now.sayings.size();
    }

    // ---- sayings

    private boolean between(int i, int p, int q) {
        Saying one = now.sayings.get(i);
        return one.who == p && one.toWhom == q || one.who == q && one.toWhom == p;
    }

    private int heat(int i, int bits) {
        Saying one = now.sayings.get(i);
        int heat = 0;
        for (int j = 0; j < now.sayings.size(); j++) {
            heat += j != i && (bits & 1 << j) != 0 && between(j, one.who, one.toWhom) ? 1 : 0;
        }
        return heat;
    }

    private int price(int i, int bits) {
        Saying one = now.sayings.get(i);
        int heat = heat(i, bits);
        switch (one.kind) {
            case 1: return heat + 1;
            case 3: return heat + one.weight + one.weight;
            case 4: return (heat + one.weight + one.weight) >> 1;
            case 5: return heat + 1 + one.topic;
            default: return heat + one.weight;
        }
    }

    private int bitsSaid() {
        int bits = 0;
        for (int i = 0; i < now.said.size(); i++) {
            bits += now.said.get(i) ? 1 << i : 0;
        }
        return bits;
    }

    private static int bits(List<Integer> numbers) {
        int bits = 0;
        for (int i : numbers) {
            bits |= 1 << i;
        }
        return bits;
    }

    private boolean may(int i, int bits) {
        if ((bits & 1 << i) == 0) {
            return false;
        }
        for (int j = 0; j < now.sayings.size(); j++) {
            if ((bits & 1 << j) != 0 && now.sayings.get(j).answers == i && now.sayings.get(i).kind != 4) {
                return false;
            }
        }
        return true;
    }

    private int free(int bits) {
        int free = 0;
        for (int i = 0; i < now.sayings.size(); i++) {
            free |= may(i, bits) ? 1 << i : 0;
        }
        return free;
    }

    private int fact(int i, int what) {
        Saying one = now.sayings.get(i);
        int[] facts = {one.kind, one.who, one.toWhom, one.topic, one.weight, one.answers,
                now.said.get(i) ? 1 : 0, price(i, bitsSaid())};
        return facts[what];
    }

    private int mark(int i, int kind) {
        known(i);
        refuse(kind < 1 || kind > 5, BAD);
        Saying one = now.sayings.get(i);
        String[] is = {"0", "01", "02", "03", "034", "015"};
        refuse(is[one.kind].indexOf('0' + kind) < 0, 3, FINDING);
        int found = 0;
        for (int j = 0; j < now.sayings.size(); j++) {
            Saying other = now.sayings.get(j);
            boolean counts = kind == 1 && j < i && between(j, one.who, one.toWhom)
                    || kind == 4 && other.answers == i && now.said.get(j)
                    || kind == 5 && beginning(j) == beginning(i) && other.topic == one.topic;
            found += counts ? 1 : 0;
        }
        if (kind == 2) {
            return Integer.bitCount(whose(i));
        }
        return kind == 3 ? fact(i, 7) - heat(i, bitsSaid()) - one.weight + 100 : found;
    }

    // ---- deeds: a number of a SAYING that was UNSAID, or 100 for one that came

    private int say(int kind, int told, int weight, int answers) {
        refuse(!in(kind, 6) || weight < 1 || weight > 9, BAD);
        refuse(answers != NONE && !in(answers, now.sayings.size()), BAD);
        refuse(!in(told, 1000), BAD);
        int who = told / 100;
        int toWhom = told % 100 / 10;
        refuse(!in(who, 6) || !in(toWhom, 6) || who == toWhom || told % 10 > 5, BAD);
        refuse(now.sayings.size() >= 12 || now.deeds.size() >= 40, FULL);
        now.sayings.add(new Saying(kind, who, toWhom, told % 10, weight, answers));
        now.said.add(true);
        now.deeds.add(100);
        return now.sayings.size() - 1;
    }

    private int unsay(int i) {
        known(i);
        refuse(!may(i, bitsSaid()), STATE);
        refuse(now.deeds.size() >= 40, FULL);
        int price = price(i, bitsSaid());
        now.said.set(i, false);
        now.deeds.add(i);
        return price;
    }

    private int undo(int n) {
        refuse(n < 0 || n > now.deeds.size(), BAD);
        int many = 0;
        while (now.deeds.size() > n) {
            int deed = now.deeds.remove(now.deeds.size() - 1);
            if (deed == 100) {
                now.said.remove(now.said.size() - 1);
                now.sayings.remove(now.sayings.size() - 1);
            } else {
                now.said.set(deed, true);
            }
            many++;
        }
        return many;
    }

    private int keep(int k) {
        refuse(!in(k, 3), BAD);
        refuse(now.sayings.isEmpty(), STATE);
        kept[k] = now.twin();
        return now.deeds.size();
    }

    private int on(int k) {
        refuse(!in(k, 3), BAD);
        refuse(kept[k] == null, 1, FINDING);
        now = kept[k].twin();
        return now.deeds.size();
    }

    // ---- leaning

    private List<Integer> chain(int i) {
        List<Integer> chain = new ArrayList<>();
        for (int j = now.sayings.get(i).answers; j != NONE; j = now.sayings.get(j).answers) {
            chain.add(j);
        }
        return chain;
    }

    private int beginning(int i) {
        List<Integer> chain = chain(i);
        return chain.isEmpty() ? i : chain.get(chain.size() - 1);
    }

    private int feeds(int i) {
        int bits = 0;
        for (int j = 0; j < now.sayings.size(); j++) {
            bits |= chain(j).contains(i) ? 1 << j : 0;
        }
        return bits;
    }

    private int bundles() {
        asked = 0;
        for (int i = 0; i < now.sayings.size(); i++) {
            asked |= now.said.get(i) ? 1 << beginning(i) : 0;
        }
        return Integer.bitCount(asked);
    }

    private int longest(int r) {
        refuse(!in(r, 6), BAD);
        List<Integer> best = new ArrayList<>();
        for (int i = 0; i < now.sayings.size(); i++) {
            List<Integer> chain = chain(i);
            Collections.reverse(chain);
            chain.add(i);
            best = chain.size() > best.size() ? chain : best;
        }
        rows.set(r, best);
        return best.size();
    }

    // ---- orders

    private int cheapest(int r) {
        refuse(!in(r, 6), BAD);
        Map<Integer, List<Integer>> known = new HashMap<>();
        List<Integer> best = cheapestOf(bitsSaid(), known);
        rows.set(r, new ArrayList<>(best.subList(1, best.size())));
        return best.get(0);
    }

    /** The least COST, and behind it the ORDER. */
    private List<Integer> cheapestOf(int bits, Map<Integer, List<Integer>> known) {
        if (bits == 0) {
            return List.of(0);
        }
        List<Integer> best = known.get(bits);
        for (int i = 0; i < now.sayings.size() && !known.containsKey(bits); i++) {
            if (may(i, bits)) {
                List<Integer> rest = cheapestOf(bits & ~(1 << i), known);
                List<Integer> whole = new ArrayList<>(List.of(rest.get(0) + price(i, bits), i));
                whole.addAll(rest.subList(1, rest.size()));
                best = best == null || isAhead(whole, best) ? whole : best;
            }
        }
        known.put(bits, best);
        return best;
    }

    private static boolean isAhead(List<Integer> one, List<Integer> other) {
        for (int k = 0; k < one.size(); k++) {
            if (!one.get(k).equals(other.get(k))) {
                return one.get(k) < other.get(k);
            }
        }
        return false;
    }

    /** How many ORDERS of these end with one (-1: with any). */
    private long waysEnding(int bits, int last, Map<Integer, Long> known) {
        if (bits == 0) {
            return last == -1 ? 1 : 0;
        }
        if (last >= 0 && bits == 1 << last) {
            return 1;
        }
        if (known.containsKey(bits)) {
            return known.get(bits);
        }
        long ways = 0;
        for (int i = 0; i < now.sayings.size(); i++) {
            if (may(i, bits)) {
                ways += waysEnding(bits & ~(1 << i), last, known);
            }
        }
        known.put(bits, ways);
        return ways;
    }

    private void share(long up, long down) {
        for (long by = Math.max(up, down); by > 1; by--) {
            if (up % by == 0 && down % by == 0) {
                up /= by;
                down /= by;
            }
        }
        upper = up;
        lower = up == 0 ? 1 : down;
    }

    private int last(int i) {
        known(i);
        refuse(!now.said.get(i), STATE);
        long all = waysEnding(bitsSaid(), -1, new HashMap<>());
        long ending = waysEnding(bitsSaid(), i, new HashMap<>());
        // both go by the factorial of 11 at most, and lowest terms have 12 at most below
        for (int down = 1; down <= 12; down++) {
            if (ending * down % all == 0) {
                share(ending * down / all, down);
                return 1;
            }
        }
        throw new IllegalStateException("a chance by more than 12");
    }

    private int judge(int r) {
        List<Integer> row = shelf(rows, r);
        for (int i : row) {
            refuse(!in(i, now.sayings.size()), 3, FINDING);
        }
        int left = bitsSaid();
        int cost = 0;
        asked = 0;
        for (int i : row) {
            if (!may(i, left)) {
                return NONE;
            }
            cost += price(i, left);
            left &= ~(1 << i);
            asked++;
        }
        return left == 0 ? cost : NONE;
    }

    // ---- persons

    private int end(int p, int q) {
        refuse(!in(p, 6) || !in(q, 6) || p == q, BAD);
        int bits = 0;
        for (int round = 0; round < 20; round++) {
            for (int i = 0; i < now.sayings.size(); i++) {
                int parent = now.sayings.get(i).answers;
                boolean dragged = parent != NONE && (bits & 1 << parent) != 0 && now.sayings.get(parent).kind != 4;
                bits |= now.said.get(i) && (between(i, p, q) || dragged) ? 1 << i : 0;
            }
        }
        asked = Integer.bitCount(bits);
        return bits;
    }

    private int speakers() {
        int persons = 0;
        for (int i = 0; i < now.sayings.size(); i++) {
            Saying one = now.sayings.get(i);
            persons |= now.said.get(i) ? 1 << one.who | 1 << one.toWhom : 0;
        }
        return persons;
    }

    private boolean tells(int p, int q) {
        for (int i = 0; i < now.sayings.size(); i++) {
            Saying one = now.sayings.get(i);
            if (now.said.get(i) && one.who == p && one.toWhom == q) {
                return true;
            }
        }
        return false;
    }

    private int rings(int here) {
        int persons = 0;
        for (int p = 0; p < 6; p++) {
            persons |= (here & 1 << p) != 0 && comesBack(p, p, here & ~(1 << p)) ? 1 << p : 0;
        }
        return persons;
    }

    /** Whether a row of PERSONS, none of them twice, leads from one to the first one. */
    private boolean comesBack(int start, int at, int left) {
        if (tells(at, start)) {
            return true;
        }
        for (int p = 0; p < 6; p++) {
            if ((left & 1 << p) != 0 && tells(at, p) && comesBack(start, p, left & ~(1 << p))) {
                return true;
            }
        }
        return false;
    }

    private int away() {
        for (int many = 0; many <= 6; many++) {
            for (int gone = 0; gone < 64; gone++) {
                if (Integer.bitCount(gone) == many && rings(63 & ~gone) == 0) {
                    asked = gone;
                    return many;
                }
            }
        }
        throw new IllegalStateException("rings without PERSONS");
    }

    private int whose(int i) {
        Saying one = now.sayings.get(i);
        int persons = 0;
        for (int p = 0; p < 6; p++) {
            boolean was = one.answers == NONE;
            for (int j = 0; j < i; j++) {
                was = was || now.sayings.get(j).toWhom == p;
            }
            boolean asks = one.answers != NONE && now.sayings.get(one.answers).who == p;
            persons |= was && !asks && p != one.toWhom ? 1 << p : 0;
        }
        return persons;
    }

    /** All ways to pair first ones, those in paired gone already. */
    private int wash(int paired) {
        for (int i = 0; i < now.sayings.size(); i++) {
            if ((paired & 1 << i) == 0 && isFirst(i)) {
                int best = wash(paired | 1 << i);
                for (int j = i + 1; j < now.sayings.size(); j++) {
                    boolean back = now.sayings.get(i).who == now.sayings.get(j).toWhom
                            && now.sayings.get(i).toWhom == now.sayings.get(j).who;
                    if (back && (paired & 1 << j) == 0 && isFirst(j)) {
                        best = Math.max(best, 1 + wash(paired | 1 << i | 1 << j));
                        break;
                    }
                }
                return best;
            }
        }
        return 0;
    }

    private boolean isFirst(int i) {
        return now.said.get(i) && now.sayings.get(i).answers == NONE;
    }

    private int bill(int p) {
        refuse(!in(p, 6), BAD);
        refuse(bitsSaid() == 0, 4, FINDING);
        int own = 0;
        int all = 0;
        for (int i = 0; i < now.sayings.size(); i++) {
            int price = now.said.get(i) ? price(i, bitsSaid()) : 0;
            all += price;
            own += now.sayings.get(beginning(i)).who == p ? price : 0;
        }
        share(own, all);
        return 1;
    }

    // ---- colours, lots

    private int colour(int i, int n) {
        refuse(!in(n, 21), BAD);
        int topic = now.sayings.get(i).topic;
        for (int hearing = 0; hearing < n; hearing++) {
            for (int j = 0; j < now.sayings.size(); j++) {
                topic += now.said.get(j) && now.sayings.get(j).answers == i ? 1 : 0;
            }
            topic = (topic + (now.sayings.get(i).kind == 5 ? 2 : 0)) % 6;
        }
        return topic;
    }

    private int lots(int n, int seed) {
        refuse(n < 1 || n > 12 || seed < 1 || seed > 2147483646, BAD);
        long number = seed;
        int prices = 0;
        for (int turn = 0; turn < n; turn++) {
            List<Integer> ways = new ArrayList<>();
            for (int i = 0; i < now.sayings.size(); i++) {
                if (may(i, bitsSaid())) {
                    ways.add(i);
                }
            }
            if (!ways.isEmpty() && now.deeds.size() < 40) {
                number = 48271 * number % 2147483647;
                prices += unsay(ways.get((int) (number % ways.size())));
            }
        }
        return prices;
    }

    // ---- what is told

    private int count(int what) {
        int said = bitsSaid();
        int beginners = 0;
        int old = 0;
        int prices = 0;
        for (int i = 0; i < now.sayings.size(); i++) {
            Saying one = now.sayings.get(i);
            beginners |= one.answers == NONE ? 1 << one.who : 0;
            old += one.kind == 1 || one.kind == 5 ? 1 : 0;
            prices += now.said.get(i) ? price(i, said) : 0;
        }
        refuse(!in(what, 9), BAD);
        int[] counts = {now.sayings.size(), Integer.bitCount(said), now.deeds.size(), prices,
                Integer.bitCount(beginners), old, 6 - Collections.frequency(rows, null),
                4 - Collections.frequency(texts, null), 3 - Collections.frequency(Arrays.asList(kept), null)};
        return counts[what];
    }

    private long digest() {
        List<Integer> values = new ArrayList<>();
        for (int what = 0; what < 9; what++) {
            values.add(count(what));
        }
        for (int i = 0; i < now.sayings.size(); i++) {
            for (int what = 0; what < 8; what++) {
                values.add(fact(i, what));
            }
        }
        for (State one : kept) {
            values.add(one == null ? -1 : one.deeds.size());
        }
        for (List<List<Integer>> all : List.of(rows, texts)) {
            for (List<Integer> one : all) {
                values.add(one == null ? -1 : one.size());
                values.addAll(one == null ? List.of() : one);
            }
        }
        long h = 17;
        for (int v : values) {
            h = 31 * h + v;
        }
        return h;
    }
}
