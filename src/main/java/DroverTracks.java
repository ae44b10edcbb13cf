import java.util.Arrays;
import java.util.NoSuchElementException;

/**
 * Drovers' tracks between farms: trees of farms that are joined, parted, rooted anew and exposed, with tolls,
 * drovers who pay them, commands as texts, undo and a snapshot.
 *
 * <p>No call makes an object but the exception that it throws: all rows are made once and used again, since all
 * calls of a run share one room. Rows are read and written only behind a look at the index, so that the machine
 * itself never throws.
 */
public final class DroverTracks {
    private static final int NONE = -1;
    private static final int MOST_FARMS = 12;
    private static final int MOST_TOLL = 200;
    private static final int MOST_CHARGE = 50;
    private static final int DROVERS = 3;
    private static final int MOST_CHANGES = 8;
    private static final int TEXT_LENGTH = 60;
    /** A way of all farms is the longest line; it has 73 characters. */
    private static final int LINE_LENGTH = 80;
    private static final int NUMBERS_OF_COMMAND = 3;

    /** The letter of a command names its kind of change, for the methods too. */
    private static final int BUILD = 'f';
    private static final int LAY = 'l';
    private static final int GIVE_UP = 'c';
    private static final int ROOT = 'r';
    private static final int EXPOSE = 'e';
    private static final int CHARGE = 't';
    private static final int DRIVE = 'd';

    private static final int OUT_OF_RANGE = 1;
    private static final int TOO_MANY_FARMS = 2;
    private static final int NO_SUCH_FARM = 3;
    private static final int ONE_FARM = 4;
    private static final int ONE_TREE = 5;
    private static final int NO_TRACK = 6;
    private static final int UNLIKE_TREES = 7;
    private static final int ROOT_ALREADY = 8;
    private static final int TOLL_OUT_OF_RANGE = 9;
    private static final int THERE_ALREADY = 10;

    private static final int FRACTION_BITS = 23;
    private static final int EXPONENT_BIAS = 127;

    private final Country country;
    private final Country beforeText;
    private final Country snapshot;
    private boolean isSaved;
    private final Changes changes;
    private final Refusal refusal;
    private final Text text;
    private int fault;
    private final Line line;
    private final Way way;
    private final int[] rankKeys;

    public DroverTracks() {
        country = new Country();
        beforeText = new Country();
        snapshot = new Country();
        changes = new Changes();
        refusal = new Refusal();
        text = new Text();
        fault = NONE;
        line = new Line();
        way = new Way();
        rankKeys = new int[MOST_FARMS];
    }

    // Changes, as methods

    public int farm(int toll) throws UnsupportedOperationException {
        return change(BUILD, toll, 0, 0);
    }

    public int lay(int one, int other) throws UnsupportedOperationException {
        return change(LAY, one, other, 0);
    }

    public int giveUp(int one, int other) throws UnsupportedOperationException {
        return change(GIVE_UP, one, other, 0);
    }

    public int root(int farm) throws UnsupportedOperationException {
        return change(ROOT, farm, 0, 0);
    }

    public int expose(int farm) throws UnsupportedOperationException {
        return change(EXPOSE, farm, 0, 0);
    }

    public int charge(int one, int other, int by) throws UnsupportedOperationException {
        return change(CHARGE, one, other, by);
    }

    public int drive(int drover, int farm) throws UnsupportedOperationException {
        return change(DRIVE, drover, farm, 0);
    }

    // Questions about farms, ways and trees

    public int farmOf(int farm, int what) throws IndexOutOfBoundsException, IllegalArgumentException {
        requireFarm(farm);
        switch (what) {
            case 0:
                return country.tollOf(farm);
            case 1:
                return country.parentOf(farm);
            case 2:
                return country.preferredOf(farm);
            case 3:
                return country.depthOf(farm);
            case 4:
                return country.childrenOf(farm);
            case 5:
                return country.behindOf(farm);
            case 6:
                return country.rootOf(farm);
            default:
                throw new IllegalArgumentException("a farm has no such number");
        }
    }

    public int steps(int one, int other) throws IndexOutOfBoundsException, NoSuchElementException {
        followWay(one, other);
        return way.tracks();
    }

    public int next(int one, int other) throws IndexOutOfBoundsException, NoSuchElementException {
        followWay(one, other);
        return farmOnWay(1);
    }

    public int onWay(int one, int other, int place) throws IndexOutOfBoundsException, NoSuchElementException {
        followWay(one, other);
        return farmOnWay(place);
    }

    public int meet(int one, int other) throws IndexOutOfBoundsException, NoSuchElementException {
        followWay(one, other);
        return way.highestFarm();
    }

    public int sum(int one, int other) throws IndexOutOfBoundsException, NoSuchElementException {
        followWay(one, other);
        int meeting = way.highestFarm();
        int twiceBehind = country.tollsToRoot(meeting) + country.tollsToRoot(country.parentOf(meeting));
        return country.tollsToRoot(one) + country.tollsToRoot(other) - twiceBehind;
    }

    public int sumAgain(int one, int other) throws IndexOutOfBoundsException, NoSuchElementException {
        followWay(one, other);
        return way.tollsIn(country);
    }

    public int dearest(int one, int other) throws IndexOutOfBoundsException, NoSuchElementException {
        followWay(one, other);
        int dearest = way.farmAt(0);
        for (int place = 1; place < way.farms(); place++) {
            if (country.tollOf(way.farmAt(place)) > country.tollOf(dearest)) {
                dearest = way.farmAt(place);
            }
        }
        return dearest;
    }

    public boolean isJoined(int one, int other) throws IndexOutOfBoundsException {
        requireFarm(one);
        requireFarm(other);
        return country.areJoined(one, other);
    }

    public boolean isTrack(int one, int other) throws IndexOutOfBoundsException {
        requireFarm(one);
        requireFarm(other);
        return country.hasTrack(one, other);
    }

    public int exposed(int farm, int place) throws IndexOutOfBoundsException, NoSuchElementException {
        requireFarm(farm);
        // No way has more places than there are farms.
        int found = country.has(place) ? country.rootOf(farm) : NONE;
        for (int step = 0; step < place && found != NONE; step++) {
            found = country.preferredOf(found);
        }
        if (found == NONE) {
            throw new NoSuchElementException("the exposed way has no such place");
        }
        return found;
    }

    public int wouldChange(int farm) throws IndexOutOfBoundsException {
        requireFarm(farm);
        way.follow(country, country.rootOf(farm), farm);
        return way.preferencesToChange(country);
    }

    public int trees() {
        int trees = 0;
        for (int farm = 0; farm < country.farms(); farm++) {
            if (country.parentOf(farm) == NONE) {
                trees++;
            }
        }
        return trees;
    }

    public int size(int farm) throws IndexOutOfBoundsException {
        requireFarm(farm);
        return country.treeSizeOf(farm);
    }

    public int farthest(int farm) throws IndexOutOfBoundsException {
        requireFarm(farm);
        return farthestFrom(farm);
    }

    public int longest(int farm) throws IndexOutOfBoundsException {
        requireFarm(farm);
        // In a tree, a farm that is farthest from any farm is an end of a longest way.
        int end = farthestFrom(farm);
        way.follow(country, end, farthestFrom(end));
        return way.tracks();
    }

    public int wouldSplit(int one, int other) throws IndexOutOfBoundsException, NoSuchElementException {
        requireFarm(one);
        requireFarm(other);
        if (!country.hasTrack(one, other)) {
            throw new NoSuchElementException("there is no track between the farms");
        }
        int lower = country.behindOf(country.childOfTrack(one, other));
        return lower * (country.treeSizeOf(one) - lower);
    }

    public int drover(int drover) throws IndexOutOfBoundsException {
        if (!isDrover(drover)) {
            throw new IndexOutOfBoundsException("there is no such drover");
        }
        return country.farmOfDrover(drover);
    }

    public int ranked(int place) throws NoSuchElementException {
        if (!country.has(place)) {
            throw new NoSuchElementException("there is no such place");
        }
        fillRankKeys();
        int found = 0;
        while (found < MOST_FARMS && farmsRankedAhead(found) != place) {
            found++;
        }
        return found;
    }

    // Texts and reasons

    public int append(char character) throws IllegalStateException {
        if (text.isFull()) {
            throw new IllegalStateException("the text buffer is full");
        }
        text.add(character);
        return text.length();
    }

    public int commands() throws IllegalArgumentException, UnsupportedOperationException {
        int count = text.countCommands();
        fault = count == NONE ? text.position() : NONE;
        boolean isDone = fault == NONE && carryOutText(count);
        text.clear();
        if (fault != NONE) {
            throw new IllegalArgumentException("the text has a fault");
        }
        if (!isDone) {
            throw new UnsupportedOperationException("a command is refused");
        }
        return count;
    }

    public int faultPosition() {
        return fault;
    }

    public int reason(int what) throws IllegalArgumentException, NoSuchElementException {
        if (what < 0 || what > 2) {
            throw new IllegalArgumentException("a reason has no such number");
        }
        if (!refusal.isKept()) {
            throw new NoSuchElementException("nothing was refused");
        }
        switch (what) {
            case 0:
                return refusal.number();
            case 1:
                return refusal.detail();
            default:
                return refusal.command();
        }
    }

    // Lines

    public int way(int one, int other) throws IndexOutOfBoundsException, NoSuchElementException {
        followWay(one, other);
        line.clear();
        for (int place = 0; place < way.farms(); place++) {
            if (place > 0) {
                line.write('>');
            }
            line.writeNumber(way.farmAt(place));
            line.write('$');
            line.writeNumber(country.tollOf(way.farmAt(place)));
        }
        return line.length();
    }

    public int tree(int farm) throws IndexOutOfBoundsException {
        requireFarm(farm);
        line.clear();
        writeBehind(country, line, farm, 0);
        return line.length();
    }

    public char character(int index) throws IndexOutOfBoundsException {
        if (index < 0 || index >= line.length()) {
            throw new IndexOutOfBoundsException("the line has no such index");
        }
        return line.at(index);
    }

    // Accounts

    public int meanToll() throws ArithmeticException {
        int farms = country.farms();
        if (farms == 0) {
            throw new ArithmeticException("there are no farms");
        }
        return bitsOf((float) country.allTolls() / (float) farms);
    }

    public double paidShare() throws ArithmeticException {
        int drives = country.drives();
        if (drives == 0) {
            throw new ArithmeticException("there was no drive");
        }
        return (double) country.paid() / (double) drives;
    }

    public int account(int what) throws IllegalArgumentException {
        switch (what) {
            case 0:
                return country.farms();
            case 1:
                // Each tree has one track less than farms.
                return country.farms() - trees();
            case 2:
                return country.allTolls();
            case 3:
                return country.preferring();
            case 4:
                return country.changedByExposing();
            case 5:
                return country.exposings();
            case 6:
                return country.drives();
            case 7:
                return country.paid();
            case 8:
                return changes.count();
            case 9:
                return text.length();
            default:
                throw new IllegalArgumentException("there is no such account");
        }
    }

    // Undo and snapshot

    public int undo() throws IllegalStateException {
        if (changes.count() == 0) {
            throw new IllegalStateException("nothing can be undone");
        }
        changes.takeBack(country);
        return changes.count();
    }

    public int save() {
        snapshot.copyFrom(country);
        isSaved = true;
        return country.farms();
    }

    public int restore() throws IllegalStateException {
        if (!isSaved) {
            throw new IllegalStateException("there is no snapshot");
        }
        country.copyFrom(snapshot);
        changes.forget();
        return country.farms();
    }

    // What the methods share

    private void requireFarm(int farm) {
        if (!country.has(farm)) {
            throw new IndexOutOfBoundsException("there is no such farm");
        }
    }

    private static boolean isDrover(int drover) {
        return drover >= 0 && drover < DROVERS;
    }

    private void followWay(int one, int other) {
        requireFarm(one);
        requireFarm(other);
        way.follow(country, one, other);
        if (way.farms() == 0) {
            throw new NoSuchElementException("the farms are in unlike trees");
        }
    }

    private int farmOnWay(int place) {
        if (place < 0 || place >= way.farms()) {
            throw new NoSuchElementException("the way has no such place");
        }
        return way.farmAt(place);
    }

    private int farthestFrom(int farm) {
        int farthest = farm;
        int most = 0;
        for (int other = 0; other < country.farms(); other++) {
            way.follow(country, farm, other);
            // The way to a farm of an unlike tree has no farms, and so never more tracks.
            if (way.tracks() > most) {
                most = way.tracks();
                farthest = other;
            }
        }
        return farthest;
    }

    /** A key puts the farms behind, the depth and the number into one, so that the lower key is ranked ahead. */
    private void fillRankKeys() {
        for (int farm = 0; farm < country.farms() && farm < rankKeys.length; farm++) {
            int fewer = MOST_FARMS - country.behindOf(farm);
            rankKeys[farm] = (fewer * MOST_FARMS + country.depthOf(farm)) * MOST_FARMS + farm;
        }
    }

    private int farmsRankedAhead(int farm) {
        int ahead = 0;
        for (int other = 0; other < country.farms() && other < rankKeys.length; other++) {
            if (farm >= 0 && farm < rankKeys.length && rankKeys[other] < rankKeys[farm]) {
                ahead++;
            }
        }
        return ahead;
    }

    private static void writeBehind(Country country, Line line, int farm, int depth) {
        line.writeNumber(farm);
        if (depth >= MOST_FARMS || country.childrenOf(farm) == 0) {
            return;
        }
        char ahead = '(';
        for (int child = 0; child < country.farms(); child++) {
            if (country.parentOf(child) == farm) {
                line.write(ahead);
                if (country.preferredOf(farm) == child) {
                    line.write('!');
                }
                writeBehind(country, line, child, depth + 1);
                ahead = ' ';
            }
        }
        line.write(')');
    }

    /** The bits of 0 or of a number that is not too small for a full fraction; all steps are exact. */
    private static int bitsOf(float number) {
        if (!(number > 0)) {
            return 0;
        }
        float scaled = number;
        int exponent = 0;
        for (; exponent < EXPONENT_BIAS && scaled >= 2; exponent++) {
            scaled = scaled / 2;
        }
        for (; exponent > -EXPONENT_BIAS && scaled < 1; exponent--) {
            scaled = scaled * 2;
        }
        int unit = 1 << FRACTION_BITS;
        int fraction = (int) (scaled * (float) unit) - unit;
        return ((exponent + EXPONENT_BIAS) << FRACTION_BITS) + fraction;
    }

    // Carrying out changes, as methods and as commands

    private int change(int kind, int first, int second, int third) {
        if (isRefused(kind, first, second, third)) {
            refusal.keepCommand(0);
            throw new UnsupportedOperationException("the change is refused");
        }
        changes.keep(country);
        return carryOut(kind, first, second, third);
    }

    /** Carries out all commands of a text without fault, or none; answers whether it was done. */
    private boolean carryOutText(int count) {
        beforeText.copyFrom(country);
        text.startReading();
        for (int command = 0; command < count; command++) {
            text.readCommand();
            if (isRefused(text.kind(), text.number(0), text.number(1), text.number(2))) {
                refusal.keepCommand(command);
                country.copyFrom(beforeText);
                return false;
            }
            carryOut(text.kind(), text.number(0), text.number(1), text.number(2));
            text.passSeparator();
        }
        changes.keep(beforeText);
        return true;
    }

    private boolean isRefused(int kind, int first, int second, int third) {
        switch (kind) {
            case BUILD:
                return refusesToBuild(first);
            case LAY:
                return refusesToLay(first, second);
            case GIVE_UP:
                return refusesToGiveUp(first, second);
            case ROOT:
                return refusesToRoot(first);
            case EXPOSE:
                return refusesFarm(first);
            case CHARGE:
                return refusesToCharge(first, second, third);
            default:
                return refusesToDrive(first, second);
        }
    }

    private int carryOut(int kind, int first, int second, int third) {
        switch (kind) {
            case BUILD:
                return country.build(first);
            case LAY:
                return layTrack(first, second);
            case GIVE_UP:
                return giveTrackUp(first, second);
            case ROOT:
                return rootAnew(first);
            case EXPOSE:
                return exposeFarm(first);
            case CHARGE:
                return chargeWay(first, second, third);
            default:
                return driveTo(first, second);
        }
    }

    private boolean refusesFarm(int farm) {
        return !country.has(farm) && refusal.keep(NO_SUCH_FARM, farm);
    }

    private boolean refusesToBuild(int toll) {
        if (!isToll(toll)) {
            return refusal.keep(OUT_OF_RANGE, 0);
        }
        return country.farms() >= MOST_FARMS && refusal.keep(TOO_MANY_FARMS, 0);
    }

    private boolean refusesToLay(int one, int other) {
        if (refusesFarm(one) || refusesFarm(other)) {
            return true;
        }
        if (one == other) {
            return refusal.keep(ONE_FARM, one);
        }
        way.follow(country, one, other);
        return way.farms() > 0 && refusal.keep(ONE_TREE, way.tracks());
    }

    private boolean refusesToGiveUp(int one, int other) {
        if (refusesFarm(one) || refusesFarm(other)) {
            return true;
        }
        return !country.hasTrack(one, other) && refusal.keep(NO_TRACK, 0);
    }

    private boolean refusesToRoot(int farm) {
        if (refusesFarm(farm)) {
            return true;
        }
        return country.parentOf(farm) == NONE && refusal.keep(ROOT_ALREADY, farm);
    }

    private boolean refusesToCharge(int one, int other, int by) {
        if (refusesFarm(one) || refusesFarm(other)) {
            return true;
        }
        if (by < -MOST_CHARGE || by > MOST_CHARGE) {
            return refusal.keep(OUT_OF_RANGE, 0);
        }
        way.follow(country, one, other);
        if (way.farms() == 0) {
            return refusal.keep(UNLIKE_TREES, country.treeSizeOf(one));
        }
        for (int place = 0; place < way.farms(); place++) {
            int farm = way.farmAt(place);
            if (!isToll(country.tollOf(farm) + by)) {
                return refusal.keep(TOLL_OUT_OF_RANGE, farm);
            }
        }
        return false;
    }

    private boolean refusesToDrive(int drover, int farm) {
        if (!isDrover(drover)) {
            return refusal.keep(OUT_OF_RANGE, 0);
        }
        if (refusesFarm(farm)) {
            return true;
        }
        int start = country.farmOfDrover(drover);
        if (start == farm) {
            return refusal.keep(THERE_ALREADY, farm);
        }
        boolean isFree = start == NONE || country.areJoined(start, farm);
        return !isFree && refusal.keep(UNLIKE_TREES, country.treeSizeOf(start));
    }

    private static boolean isToll(int toll) {
        return toll >= 0 && toll <= MOST_TOLL;
    }

    private int layTrack(int one, int other) {
        // A farm that is the root already keeps what it prefers.
        if (country.parentOf(one) != NONE) {
            rootAnew(one);
        }
        country.setParent(one, other);
        return country.treeSizeOf(one);
    }

    private int giveTrackUp(int one, int other) {
        int child = country.childOfTrack(one, other);
        int parent = country.parentOf(child);
        if (country.preferredOf(parent) == child) {
            country.prefer(parent, NONE);
        }
        country.setParent(child, NONE);
        return country.treeSizeOf(child);
    }

    private int rootAnew(int farm) {
        int rootBefore = country.rootOf(farm);
        way.follow(country, farm, rootBefore);
        for (int place = 0; place < way.farms(); place++) {
            // The farm itself has none ahead of it, and so no parent.
            country.setParent(way.farmAt(place), way.farmAt(place - 1));
            country.prefer(way.farmAt(place), NONE);
        }
        return rootBefore;
    }

    private int exposeFarm(int farm) {
        way.follow(country, country.rootOf(farm), farm);
        int changed = way.preferencesToChange(country);
        for (int place = 0; place < way.farms(); place++) {
            country.prefer(way.farmAt(place), way.farmAt(place + 1));
        }
        country.countExposing(changed);
        return changed;
    }

    private int chargeWay(int one, int other, int by) {
        way.follow(country, one, other);
        for (int place = 0; place < way.farms(); place++) {
            country.chargeMore(way.farmAt(place), by);
        }
        return way.tollsIn(country);
    }

    private int driveTo(int drover, int farm) {
        int start = country.farmOfDrover(drover);
        country.setFarmOfDrover(drover, farm);
        if (start == NONE) {
            return 0;
        }
        way.follow(country, start, farm);
        int paid = way.tollsIn(country) - country.tollOf(start);
        country.countDrive(paid);
        exposeFarm(farm);
        return paid;
    }

    /** All that can be undone: the farms, their tracks, tolls and preferences, the drovers, and what is counted. */
    private static final class Country {
        private int farms;
        private final int[] tolls;
        private final int[] parents;
        private final int[] preferred;
        private final int[] droverFarms;
        private int changedByExposing;
        private int exposings;
        private int drives;
        private int paid;

        Country() {
            tolls = new int[MOST_FARMS];
            parents = new int[MOST_FARMS];
            preferred = new int[MOST_FARMS];
            droverFarms = new int[DROVERS];
            Arrays.fill(droverFarms, NONE);
        }

        void copyFrom(Country other) {
            farms = other.farms;
            copyRow(other.tolls, tolls);
            copyRow(other.parents, parents);
            copyRow(other.preferred, preferred);
            copyRow(other.droverFarms, droverFarms);
            changedByExposing = other.changedByExposing;
            exposings = other.exposings;
            drives = other.drives;
            paid = other.paid;
        }

        private static void copyRow(int[] from, int[] to) {
            System.arraycopy(from, 0, to, 0, Math.min(from.length, to.length));
        }

        int farms() {
            return farms;
        }

        boolean has(int farm) {
            return farm >= 0 && farm < farms;
        }

        int tollOf(int farm) {
            return farm >= 0 && farm < tolls.length ? tolls[farm] : 0;
        }

        int parentOf(int farm) {
            return farm >= 0 && farm < parents.length ? parents[farm] : NONE;
        }

        int preferredOf(int farm) {
            return farm >= 0 && farm < preferred.length ? preferred[farm] : NONE;
        }

        int farmOfDrover(int drover) {
            return drover >= 0 && drover < droverFarms.length ? droverFarms[drover] : NONE;
        }

        int rootOf(int farm) {
            int highest = farm;
            for (int step = 0; step < MOST_FARMS && parentOf(highest) != NONE; step++) {
                highest = parentOf(highest);
            }
            return highest;
        }

        int depthOf(int farm) {
            int depth = 0;
            for (int above = parentOf(farm); depth < MOST_FARMS && above != NONE; depth++) {
                above = parentOf(above);
            }
            return depth;
        }

        int childrenOf(int farm) {
            int children = 0;
            for (int other = 0; other < farms; other++) {
                if (parentOf(other) == farm) {
                    children++;
                }
            }
            return children;
        }

        int behindOf(int farm) {
            int behind = 0;
            for (int other = 0; other < farms; other++) {
                if (isBehind(farm, other)) {
                    behind++;
                }
            }
            return behind;
        }

        private boolean isBehind(int farm, int other) {
            int above = other;
            for (int step = 0; step < MOST_FARMS && above != NONE && above != farm; step++) {
                above = parentOf(above);
            }
            return above == farm;
        }

        int treeSizeOf(int farm) {
            int root = rootOf(farm);
            int joined = 0;
            for (int other = 0; other < farms; other++) {
                if (rootOf(other) == root) {
                    joined++;
                }
            }
            return joined;
        }

        boolean areJoined(int one, int other) {
            return rootOf(one) == rootOf(other);
        }

        boolean hasTrack(int one, int other) {
            return parentOf(one) == other || parentOf(other) == one;
        }

        int childOfTrack(int one, int other) {
            return parentOf(one) == other ? one : other;
        }

        int tollsToRoot(int farm) {
            int tollsSoFar = 0;
            int above = farm;
            for (int step = 0; step < MOST_FARMS && above != NONE; step++) {
                tollsSoFar += tollOf(above);
                above = parentOf(above);
            }
            return tollsSoFar;
        }

        int allTolls() {
            int all = 0;
            for (int farm = 0; farm < farms; farm++) {
                all += tollOf(farm);
            }
            return all;
        }

        int preferring() {
            int preferring = 0;
            for (int farm = 0; farm < farms; farm++) {
                if (preferredOf(farm) != NONE) {
                    preferring++;
                }
            }
            return preferring;
        }

        int changedByExposing() {
            return changedByExposing;
        }

        int exposings() {
            return exposings;
        }

        int drives() {
            return drives;
        }

        int paid() {
            return paid;
        }

        int build(int toll) {
            int built = farms;
            if (built >= 0 && built < tolls.length) {
                tolls[built] = toll;
                setParent(built, NONE);
                prefer(built, NONE);
                farms++;
            }
            return built;
        }

        void setParent(int farm, int parent) {
            if (farm >= 0 && farm < parents.length) {
                parents[farm] = parent;
            }
        }

        void prefer(int farm, int child) {
            if (farm >= 0 && farm < preferred.length) {
                preferred[farm] = child;
            }
        }

        void chargeMore(int farm, int by) {
            if (farm >= 0 && farm < tolls.length) {
                tolls[farm] += by;
            }
        }

        void setFarmOfDrover(int drover, int farm) {
            if (drover >= 0 && drover < droverFarms.length) {
                droverFarms[drover] = farm;
            }
        }

        void countExposing(int changed) {
            exposings++;
            changedByExposing += changed;
        }

        void countDrive(int amount) {
            drives++;
            paid += amount;
        }
    }

    /** The farms of the way that was followed last, in their order. */
    private static final class Way {
        private final int[] row;
        private int farms;
        private int highestPlace;

        Way() {
            row = new int[MOST_FARMS];
            highestPlace = NONE;
        }

        /** Follows the way from the one farm to the other; it has no farms if they are in unlike trees. */
        void follow(Country country, int one, int other) {
            farms = 0;
            for (int above = one; farms < row.length && above != NONE; above = country.parentOf(above)) {
                row[farms] = above;
                farms++;
            }
            int meeting = other;
            int below = 0;
            for (; below < MOST_FARMS && meeting != NONE && placeOf(meeting) == NONE; below++) {
                meeting = country.parentOf(meeting);
            }
            highestPlace = placeOf(meeting);
            farms = highestPlace == NONE ? 0 : highestPlace + 1 + below;
            int farm = other;
            for (int place = farms - 1; place > highestPlace && place < row.length; place--) {
                row[place] = farm;
                farm = country.parentOf(farm);
            }
        }

        private int placeOf(int farm) {
            for (int place = 0; place < farms && place < row.length; place++) {
                if (row[place] == farm) {
                    return place;
                }
            }
            return NONE;
        }

        int farms() {
            return farms;
        }

        int tracks() {
            return farms - 1;
        }

        int farmAt(int place) {
            return place >= 0 && place < farms && place < row.length ? row[place] : NONE;
        }

        int highestFarm() {
            return farmAt(highestPlace);
        }

        int tollsIn(Country country) {
            int tolls = 0;
            for (int place = 0; place < farms; place++) {
                tolls += country.tollOf(farmAt(place));
            }
            return tolls;
        }

        /** How many farms of a way from a root would prefer something else if its last farm was exposed. */
        int preferencesToChange(Country country) {
            int changed = 0;
            for (int place = 0; place < farms; place++) {
                if (country.preferredOf(farmAt(place)) != farmAt(place + 1)) {
                    changed++;
                }
            }
            return changed;
        }
    }

    /** Why something was refused the last time. */
    private static final class Refusal {
        private int number;
        private int detail;
        private int command;

        /** Answers true, so that what refuses can tell the reason and that it refuses in one. */
        boolean keep(int newNumber, int newDetail) {
            number = newNumber;
            detail = newDetail;
            return true;
        }

        void keepCommand(int newCommand) {
            command = newCommand;
        }

        boolean isKept() {
            return number != 0;
        }

        int number() {
            return number;
        }

        int detail() {
            return detail;
        }

        int command() {
            return command;
        }
    }

    /** What there was before each of the latest changes; the oldest gives its place to the newest. */
    private static final class Changes {
        private final Country[] kept;
        private int nextPlace;
        private int count;

        Changes() {
            kept = new Country[MOST_CHANGES];
            for (int place = 0; place < kept.length; place++) {
                kept[place] = new Country();
            }
        }

        void keep(Country before) {
            Country place = at(nextPlace);
            if (place != null) {
                place.copyFrom(before);
                nextPlace = (nextPlace + 1) % MOST_CHANGES;
                count = Math.min(count + 1, MOST_CHANGES);
            }
        }

        void takeBack(Country country) {
            int latest = (nextPlace + MOST_CHANGES - 1) % MOST_CHANGES;
            Country before = at(latest);
            if (count > 0 && before != null) {
                country.copyFrom(before);
                nextPlace = latest;
                count--;
            }
        }

        void forget() {
            count = 0;
        }

        int count() {
            return count;
        }

        private Country at(int place) {
            return place >= 0 && place < kept.length ? kept[place] : null;
        }
    }

    /** The text buffer, and the reading of its commands, one after the other. */
    private static final class Text {
        private static final char SEPARATOR = ';';
        private static final char MORE = '+';
        private static final char LESS = '*';
        /** Continues no text, so that a text that ends too early is at fault at its end. */
        private static final char END = 0;

        private final char[] characters;
        private int length;
        private int position;
        private int kind;
        private final int[] numbers;
        private int numbersRead;
        private int sign;

        Text() {
            characters = new char[TEXT_LENGTH];
            numbers = new int[NUMBERS_OF_COMMAND];
        }

        boolean isFull() {
            return length >= characters.length;
        }

        void add(char character) {
            if (length >= 0 && length < characters.length) {
                characters[length] = character;
                length++;
            }
        }

        void clear() {
            length = 0;
        }

        int length() {
            return length;
        }

        int position() {
            return position;
        }

        int kind() {
            return kind;
        }

        int number(int place) {
            return place >= 0 && place < numbers.length ? numbers[place] : 0;
        }

        /** Reads the whole text; answers NONE if it has a fault, which is at the position then. */
        int countCommands() {
            startReading();
            for (int count = 1; count <= TEXT_LENGTH; count++) {
                if (!readCommand()) {
                    return NONE;
                }
                if (position >= length) {
                    return count;
                }
                if (current() != SEPARATOR) {
                    return NONE;
                }
                passSeparator();
            }
            return NONE;
        }

        void startReading() {
            position = 0;
        }

        void passSeparator() {
            position++;
        }

        /** Reads a command; answers false if the text cannot go on so at the position. */
        boolean readCommand() {
            kind = current();
            String shape = shapeOf(kind);
            if (shape.isEmpty()) {
                return false;
            }
            position++;
            numbersRead = 0;
            sign = 1;
            boolean isRead = true;
            for (int part = 0; part < shape.length() && isRead; part++) {
                isRead = readPart(shape.charAt(part));
            }
            return isRead;
        }

        /** What follows the letter: a digit stands for a number of at most so many digits, "+" for either sign. */
        private static String shapeOf(int letter) {
            switch (letter) {
                case BUILD:
                    return "3";
                case LAY:
                case GIVE_UP:
                    return "2-2";
                case ROOT:
                case EXPOSE:
                    return "2";
                case CHARGE:
                    return "2-2+2";
                case DRIVE:
                    return "1>2";
                default:
                    return "";
            }
        }

        private boolean readPart(char part) {
            if (isDigit(part)) {
                return readNumber(part - '0');
            }
            if (part == MORE && current() == LESS) {
                sign = -1;
            } else if (current() != part) {
                return false;
            }
            position++;
            return true;
        }

        private boolean readNumber(int mostDigits) {
            int number = 0;
            int digits = 0;
            for (; digits < mostDigits && isDigit(current()); digits++) {
                number = number * 10 + (current() - '0');
                position++;
            }
            if (digits > 0 && numbersRead >= 0 && numbersRead < numbers.length) {
                numbers[numbersRead] = sign * number;
                numbersRead++;
            }
            return digits > 0;
        }

        private static boolean isDigit(char character) {
            return character >= '0' && character <= '9';
        }

        private char current() {
            boolean isInText = position >= 0 && position < length && position < characters.length;
            return isInText ? characters[position] : END;
        }
    }

    /** The line that was written last. */
    private static final class Line {
        private final char[] characters;
        private int length;

        Line() {
            characters = new char[LINE_LENGTH];
        }

        void clear() {
            length = 0;
        }

        int length() {
            return length;
        }

        char at(int index) {
            return index >= 0 && index < length && index < characters.length ? characters[index] : ' ';
        }

        void write(char character) {
            if (length >= 0 && length < characters.length) {
                characters[length] = character;
                length++;
            }
        }

        /** Farms and tolls have at most three digits. */
        void writeNumber(int number) {
            if (number >= 100) {
                write((char) ('0' + number / 100 % 10));
            }
            if (number >= 10) {
                write((char) ('0' + number / 10 % 10));
            }
            write((char) ('0' + number % 10));
        }
    }
}
