import java.util.ArrayDeque;
import java.util.ArrayList;
import java.util.Arrays;
import java.util.Collections;
import java.util.Deque;
import java.util.List;
import java.util.NoSuchElementException;
import java.util.regex.Matcher;
import java.util.regex.Pattern;

/**
 * The document's words again, in another way than the program's: tracks as pairs, ways by search, parents by ways,
 * texts by a regular expression. ModelTest compares both.
 */
public final class Model {
    private static final String COMMAND = "(?:f\\d{1,3}|[lc]\\d{1,2}-\\d{1,2}|[re]\\d{1,2}"
            + "|t\\d{1,2}-\\d{1,2}[+*]\\d{1,2}|d\\d>\\d{1,2})";
    private static final Pattern TEXT = Pattern.compile(COMMAND.replace("\\d", "[0-9]")
            + "(?:;" + COMMAND.replace("\\d", "[0-9]") + ")*");

    /** All that can be undone. */
    private static final class State {
        List<Integer> tolls = new ArrayList<>();
        List<List<Integer>> tracks = new ArrayList<>();
        List<Integer> roots = new ArrayList<>();
        List<Integer> preferred = new ArrayList<>();
        int[] drovers = {-1, -1, -1};
        int turned;
        int exposings;
        int drives;
        int paid;

        State copy() {
            State copy = new State();
            copy.tolls = new ArrayList<>(tolls);
            copy.tracks = new ArrayList<>(tracks);
            copy.roots = new ArrayList<>(roots);
            copy.preferred = new ArrayList<>(preferred);
            copy.drovers = drovers.clone();
            copy.turned = turned;
            copy.exposings = exposings;
            copy.drives = drives;
            copy.paid = paid;
            return copy;
        }
    }

    private State now = new State();
    private final Deque<State> undoable = new ArrayDeque<>();
    private State saved;
    private String text = "";
    private String line = "";
    private int fault = -1;
    private int[] reason;
    private int command;
    private boolean isInText;

    // The state

    private boolean has(int farm) {
        return farm >= 0 && farm < now.tolls.size();
    }

    private boolean track(int one, int other) {
        return now.tracks.contains(List.of(Math.min(one, other), Math.max(one, other)));
    }

    /** The way, or null: every farm is tried that is not on the way yet. */
    private List<Integer> find(List<Integer> soFar, int other) {
        int last = soFar.get(soFar.size() - 1);
        if (last == other) {
            return soFar;
        }
        for (int farm = 0; farm < now.tolls.size(); farm++) {
            if (track(last, farm) && !soFar.contains(farm)) {
                List<Integer> longer = new ArrayList<>(soFar);
                longer.add(farm);
                List<Integer> found = find(longer, other);
                if (found != null) {
                    return found;
                }
            }
        }
        return null;
    }

    private List<Integer> found(int one, int other) {
        return find(List.of(one), other);
    }

    private List<Integer> treeFarms(int farm) {
        List<Integer> farms = new ArrayList<>();
        for (int other = 0; other < now.tolls.size(); other++) {
            if (found(farm, other) != null) {
                farms.add(other);
            }
        }
        return farms;
    }

    private int rootFarm(int farm) {
        for (int root : now.roots) {
            if (found(farm, root) != null) {
                return root;
            }
        }
        throw new AssertionError("a tree without a root");
    }

    private int parent(int farm) {
        List<Integer> up = found(farm, rootFarm(farm));
        return up.size() == 1 ? -1 : up.get(1);
    }

    private List<Integer> behind(int farm) {
        List<Integer> farms = new ArrayList<>();
        for (int other : treeFarms(farm)) {
            if (found(other, rootFarm(farm)).contains(farm)) {
                farms.add(other);
            }
        }
        return farms;
    }

    private int depth(int farm) {
        return found(farm, rootFarm(farm)).size() - 1;
    }

    private int tolls(List<Integer> farms) {
        return farms.stream().mapToInt(farm -> now.tolls.get(farm)).sum();
    }

    private int exposing(int farm) {
        List<Integer> down = found(rootFarm(farm), farm);
        int changed = 0;
        for (int i = 0; i < down.size(); i++) {
            int next = i + 1 < down.size() ? down.get(i + 1) : -1;
            if (now.preferred.get(down.get(i)) != next) {
                now.preferred.set(down.get(i), next);
                changed++;
            }
        }
        return changed;
    }

    private void rooting(int farm) {
        int old = rootFarm(farm);
        exposing(farm);
        for (int turned : found(farm, old)) {
            now.preferred.set(turned, -1);
        }
        now.roots.remove(Integer.valueOf(old));
        now.roots.add(farm);
    }

    // Changes

    private void refuse(int number, int detail) {
        reason = new int[] {number, detail, isInText ? command : 0};
        throw new UnsupportedOperationException();
    }

    private void need(int farm) {
        if (!has(farm)) {
            refuse(3, farm);
        }
    }

    private void keep() {
        if (!isInText) {
            push(now.copy());
        }
    }

    private void push(State state) {
        undoable.addLast(state);
        if (undoable.size() > 8) {
            undoable.removeFirst();
        }
    }

    public int farm(int toll) {
        if (toll < 0 || toll > 200) {
            refuse(1, 0);
        }
        if (now.tolls.size() == 12) {
            refuse(2, 0);
        }
        keep();
        now.tolls.add(toll);
        now.preferred.add(-1);
        now.roots.add(now.tolls.size() - 1);
        return now.tolls.size() - 1;
    }

    public int lay(int one, int other) {
        need(one);
        need(other);
        if (one == other) {
            refuse(4, one);
        }
        if (found(one, other) != null) {
            refuse(5, found(one, other).size() - 1);
        }
        keep();
        if (rootFarm(one) != one) {
            rooting(one);
        }
        now.roots.remove(Integer.valueOf(one));
        now.tracks.add(List.of(Math.min(one, other), Math.max(one, other)));
        return treeFarms(one).size();
    }

    public int giveUp(int one, int other) {
        need(one);
        need(other);
        if (!track(one, other)) {
            refuse(6, 0);
        }
        keep();
        int lower = parent(one) == other ? one : other;
        int upper = lower == one ? other : one;
        now.tracks.remove(List.of(Math.min(one, other), Math.max(one, other)));
        now.roots.add(lower);
        if (now.preferred.get(upper) == lower) {
            now.preferred.set(upper, -1);
        }
        return treeFarms(lower).size();
    }

    public int root(int farm) {
        need(farm);
        if (rootFarm(farm) == farm) {
            refuse(8, farm);
        }
        keep();
        int old = rootFarm(farm);
        rooting(farm);
        return old;
    }

    public int expose(int farm) {
        need(farm);
        keep();
        int changed = exposing(farm);
        now.exposings++;
        now.turned += changed;
        return changed;
    }

    public int charge(int one, int other, int by) {
        need(one);
        need(other);
        if (by < -50 || by > 50) {
            refuse(1, 0);
        }
        List<Integer> farms = found(one, other);
        if (farms == null) {
            refuse(7, treeFarms(one).size());
        }
        for (int farm : farms) {
            int toll = now.tolls.get(farm) + by;
            if (toll < 0 || toll > 200) {
                refuse(9, farm);
            }
        }
        keep();
        for (int farm : farms) {
            now.tolls.set(farm, now.tolls.get(farm) + by);
        }
        return tolls(farms);
    }

    public int drive(int drover, int farm) {
        if (drover < 0 || drover > 2) {
            refuse(1, 0);
        }
        need(farm);
        int from = now.drovers[drover];
        if (from == farm) {
            refuse(10, farm);
        }
        if (from != -1 && found(from, farm) == null) {
            refuse(7, treeFarms(from).size());
        }
        keep();
        now.drovers[drover] = farm;
        if (from == -1) {
            return 0;
        }
        List<Integer> farms = found(from, farm);
        int pays = tolls(farms.subList(1, farms.size()));
        now.drives++;
        now.paid += pays;
        now.exposings++;
        now.turned += exposing(farm);
        return pays;
    }

    // Questions

    private void index(boolean holds) {
        if (!holds) {
            throw new IndexOutOfBoundsException();
        }
    }

    private void element(boolean holds) {
        if (!holds) {
            throw new NoSuchElementException();
        }
    }

    private List<Integer> asked(int one, int other) {
        index(has(one) && has(other));
        element(found(one, other) != null);
        return found(one, other);
    }

    public int farmOf(int farm, int what) {
        index(has(farm));
        switch (what) {
            case 0: return now.tolls.get(farm);
            case 1: return parent(farm);
            case 2: return now.preferred.get(farm);
            case 3: return depth(farm);
            case 4: return (int) treeFarms(farm).stream().filter(child -> parent(child) == farm).count();
            case 5: return behind(farm).size();
            case 6: return rootFarm(farm);
            default: throw new IllegalArgumentException();
        }
    }

    public int steps(int one, int other) {
        return asked(one, other).size() - 1;
    }

    public int next(int one, int other) {
        List<Integer> farms = asked(one, other);
        element(farms.size() > 1);
        return farms.get(1);
    }

    public int onWay(int one, int other, int place) {
        List<Integer> farms = asked(one, other);
        element(place >= 0 && place < farms.size());
        return farms.get(place);
    }

    public int meet(int one, int other) {
        int least = one;
        for (int farm : asked(one, other)) {
            least = depth(farm) < depth(least) ? farm : least;
        }
        return least;
    }

    public int sum(int one, int other) {
        return tolls(asked(one, other));
    }

    public int sumAgain(int one, int other) {
        return tolls(asked(one, other));
    }

    public int dearest(int one, int other) {
        List<Integer> farms = asked(one, other);
        int most = farms.stream().mapToInt(farm -> now.tolls.get(farm)).max().getAsInt();
        return farms.stream().filter(farm -> now.tolls.get(farm) == most).findFirst().get();
    }

    public boolean isJoined(int one, int other) {
        index(has(one) && has(other));
        return found(one, other) != null;
    }

    public boolean isTrack(int one, int other) {
        index(has(one) && has(other));
        return track(one, other);
    }

    public int exposed(int farm, int place) {
        index(has(farm));
        List<Integer> farms = new ArrayList<>();
        for (int at = rootFarm(farm); at != -1; at = now.preferred.get(at)) {
            farms.add(at);
        }
        element(place >= 0 && place < farms.size());
        return farms.get(place);
    }

    public int wouldChange(int farm) {
        index(has(farm));
        State before = now;
        now = now.copy();
        int changed = exposing(farm);
        now = before;
        return changed;
    }

    public int trees() {
        return now.roots.size();
    }

    public int size(int farm) {
        index(has(farm));
        return treeFarms(farm).size();
    }

    public int farthest(int farm) {
        index(has(farm));
        int most = treeFarms(farm).stream().mapToInt(other -> steps(farm, other)).max().getAsInt();
        return treeFarms(farm).stream().filter(other -> steps(farm, other) == most).findFirst().get();
    }

    public int longest(int farm) {
        index(has(farm));
        int most = 0;
        for (int one : treeFarms(farm)) {
            for (int other : treeFarms(farm)) {
                most = Math.max(most, steps(one, other));
            }
        }
        return most;
    }

    public int wouldSplit(int one, int other) {
        index(has(one) && has(other));
        element(track(one, other));
        int pairs = 0;
        for (int a : treeFarms(one)) {
            for (int b : treeFarms(one)) {
                List<Integer> farms = found(a, b);
                pairs += a < b && farms.contains(one) && farms.contains(other) ? 1 : 0;
            }
        }
        return pairs;
    }

    public int drover(int drover) {
        index(drover >= 0 && drover <= 2);
        return now.drovers[drover];
    }

    public int ranked(int place) {
        element(has(place));
        List<Integer> farms = new ArrayList<>();
        for (int farm = 0; farm < now.tolls.size(); farm++) {
            farms.add(farm);
        }
        farms.sort((a, b) -> {
            int bySize = behind(b).size() - behind(a).size();
            return bySize != 0 ? bySize : depth(a) - depth(b);
        });
        return farms.get(place);
    }

    // Texts, lines, accounts, undo

    public int append(char character) {
        if (text.length() == 60) {
            throw new IllegalStateException();
        }
        text += character;
        return text.length();
    }

    private static int faultIn(String text) {
        for (int length = 0; length <= text.length(); length++) {
            Matcher matcher = TEXT.matcher(text.substring(0, length));
            if (!matcher.matches() && !matcher.hitEnd()) {
                return length - 1;
            }
        }
        return TEXT.matcher(text).matches() ? -1 : text.length();
    }

    public int commands() {
        String told = text;
        text = "";
        fault = faultIn(told);
        if (fault != -1) {
            throw new IllegalArgumentException();
        }
        State before = now.copy();
        String[] all = told.split(";");
        isInText = true;
        try {
            for (command = 0; command < all.length; command++) {
                carryOut(all[command]);
            }
        } catch (UnsupportedOperationException e) {
            now = before;
            throw new UnsupportedOperationException();
        } finally {
            isInText = false;
        }
        push(before);
        return all.length;
    }

    private void carryOut(String one) {
        int[] n = Arrays.stream(one.substring(1).split("[^0-9]")).mapToInt(Integer::parseInt).toArray();
        switch (one.charAt(0)) {
            case 'f': farm(n[0]); break;
            case 'l': lay(n[0], n[1]); break;
            case 'c': giveUp(n[0], n[1]); break;
            case 'r': root(n[0]); break;
            case 'e': expose(n[0]); break;
            case 't': charge(n[0], n[1], one.contains("*") ? -n[2] : n[2]); break;
            default: drive(n[0], n[1]);
        }
    }

    public int faultPosition() {
        return fault;
    }

    public int reason(int what) {
        if (what < 0 || what > 2) {
            throw new IllegalArgumentException();
        }
        element(reason != null);
        return reason[what];
    }

    public int way(int one, int other) {
        List<String> parts = new ArrayList<>();
        for (int farm : asked(one, other)) {
            parts.add(farm + "$" + now.tolls.get(farm));
        }
        line = String.join(">", parts);
        return line.length();
    }

    public int tree(int farm) {
        index(has(farm));
        line = told(farm);
        return line.length();
    }

    private String told(int farm) {
        List<String> parts = new ArrayList<>();
        for (int child : behind(farm)) {
            if (parent(child) == farm && child != farm) {
                parts.add((now.preferred.get(farm) == child ? "!" : "") + told(child));
            }
        }
        return farm + (parts.isEmpty() ? "" : "(" + String.join(" ", parts) + ")");
    }

    public char character(int index) {
        index(index >= 0 && index < line.length());
        return line.charAt(index);
    }

    public int meanToll() {
        if (now.tolls.isEmpty()) {
            throw new ArithmeticException();
        }
        return Float.floatToIntBits((float) account(2) / (float) now.tolls.size());
    }

    public double paidShare() {
        if (now.drives == 0) {
            throw new ArithmeticException();
        }
        return (double) now.paid / (double) now.drives;
    }

    public int account(int what) {
        switch (what) {
            case 0: return now.tolls.size();
            case 1: return now.tracks.size();
            case 2: return now.tolls.stream().mapToInt(toll -> toll).sum();
            case 3: return now.preferred.size() - Collections.frequency(now.preferred, -1);
            case 4: return now.turned;
            case 5: return now.exposings;
            case 6: return now.drives;
            case 7: return now.paid;
            case 8: return undoable.size();
            case 9: return text.length();
            default: throw new IllegalArgumentException();
        }
    }

    public int undo() {
        if (undoable.isEmpty()) {
            throw new IllegalStateException();
        }
        now = undoable.removeLast();
        return undoable.size();
    }

    public int save() {
        saved = now.copy();
        return now.tolls.size();
    }

    public int restore() {
        if (saved == null) {
            throw new IllegalStateException();
        }
        now = saved.copy();
        undoable.clear();
        return now.tolls.size();
    }
}
