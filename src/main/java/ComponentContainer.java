import java.util.Arrays;

/** A dependency injection container; ../shared/DOC.md tells what each member promises. */
public final class ComponentContainer {
    public static final int TYPES = 0, SCOPE = 1, QUALIFIER = 2, PRIMARY = 3, LAZY = 4, PROFILE = 5, FAIL_AT = 6;
    public static final int SINGLETON = 0, PROTOTYPE = 1, SCOPED = 2;
    public static final int REQUIRED = 0, OPTIONAL = 1, ALL = 2, LATER = 3;
    public static final int NO_CANDIDATE = 1, AMBIGUOUS = 2, CYCLE = 3, NO_SCOPE = 4, LIMIT = 5, BROKEN = 6;
    public static final int NONE = -1;

    private static final int MAX_COMPONENTS = 20;
    private static final int MAX_DEPENDENCIES = 6;
    private static final int MAX_INSTANCES = 300;
    private static final int MAX_SCOPES = 5;
    private static final int HIGHEST_TYPE = 15;
    private static final int HIGHEST_QUALIFIER = 9;
    private static final int HIGHEST_PROFILE = 7;

    private static final int PROPERTY_COUNT = 7;
    private static final int[] LOWEST_VALUES = {1, 0, -1, 0, 0, -1, -1};
    private static final int[] HIGHEST_VALUES = {65535, 2, 9, 1, 1, 7, 99};

    private static final int PART_COUNT = 3;
    private static final int TYPE_PART = 0;
    private static final int QUALIFIER_PART = 1;
    private static final int MODE_PART = 2;

    // The places that keep instances: this one, and the open scopes by their depths from 1.
    // Instances of PROTOTYPE components are kept nowhere: their place is NONE.
    private static final int SINGLETON_PLACE = 0;

    // Stands apart from NONE, which an OPTIONAL dependency may inject.
    private static final int FAILED = -2;

    private final Descriptions descriptions = new Descriptions();
    private final Ledger ledger = new Ledger();
    private final Failure failure = new Failure();
    private int openScopes = 0;

    // The components under construction, the outermost one first; the depth of a
    // construction, carried as an argument, tells how many of them stand now.
    private final int[] chain = new int[MAX_COMPONENTS];

    // What has been injected so far into the instance under construction at each depth.
    private final int[][] injecting = new int[MAX_COMPONENTS][MAX_DEPENDENCIES];

    // The components that the trial behind problem() has found to be without a problem.
    private int soundComponents = 0;

    public ComponentContainer() {
    }

    // ---- components

    public int add(int types, int scope) throws IllegalArgumentException, IllegalStateException {
        if (!isPropertyValue(TYPES, types) || !isPropertyValue(SCOPE, scope)) {
            throw new IllegalArgumentException("types or scope is out of range");
        }
        if (descriptions.count >= MAX_COMPONENTS) {
            throw new IllegalStateException("there are 20 components");
        }
        return descriptions.append(types, scope);
    }

    public int set(int component, int property, int value)
            throws IndexOutOfBoundsException, IllegalArgumentException {
        requireComponent(component);
        requireProperty(property);
        if (!isPropertyValue(property, value)) {
            throw new IllegalArgumentException("the value is out of its range");
        }
        int previous = descriptions.properties[component][property];
        descriptions.properties[component][property] = value;
        return previous;
    }

    public int property(int component, int property)
            throws IndexOutOfBoundsException, IllegalArgumentException {
        requireComponent(component);
        requireProperty(property);
        return descriptions.properties[component][property];
    }

    public int depend(int component, int type, int qualifier, int mode)
            throws IndexOutOfBoundsException, IllegalArgumentException, IllegalStateException {
        requireComponent(component);
        requireTypeAndQualifier(type, qualifier);
        if (!isBetween(mode, REQUIRED, LATER)) {
            throw new IllegalArgumentException("mode is out of range");
        }
        if (descriptions.dependencyCounts[component] >= MAX_DEPENDENCIES) {
            throw new IllegalStateException("the component has 6 dependencies");
        }
        return descriptions.appendDependency(component, type, qualifier, mode);
    }

    public int clear(int component) throws IndexOutOfBoundsException {
        requireComponent(component);
        int removed = descriptions.dependencyCounts[component];
        descriptions.dependencyCounts[component] = 0;
        return removed;
    }

    public int dependency(int component, int index, int part)
            throws IndexOutOfBoundsException, IllegalArgumentException {
        requireComponent(component);
        if (!isBetween(part, TYPE_PART, MODE_PART)) {
            throw new IllegalArgumentException("part is out of range");
        }
        if (index == -1) {
            return descriptions.dependencyCounts[component];
        }
        return descriptions.hasDependency(component, index) ? descriptions.partOf(component, index, part) : NONE;
    }

    public boolean profile(int profile, boolean on) throws IllegalArgumentException {
        if (!isBetween(profile, 0, HIGHEST_PROFILE)) {
            throw new IllegalArgumentException("profile is out of range");
        }
        boolean before = isIn(descriptions.profilesOn, profile);
        descriptions.turnProfile(profile, on);
        return before;
    }

    public int components() {
        return descriptions.count;
    }

    // ---- questions about components; nothing is constructed

    public int candidates(int type, int qualifier) throws IllegalArgumentException {
        requireTypeAndQualifier(type, qualifier);
        return descriptions.candidateMask(type, qualifier);
    }

    public int chosen(int type, int qualifier) throws IllegalArgumentException {
        requireTypeAndQualifier(type, qualifier);
        return descriptions.choiceAmong(descriptions.candidateMask(type, qualifier));
    }

    public int problem(int component) throws IndexOutOfBoundsException {
        requireComponent(component);
        soundComponents = 0;
        return tryConstruction(component, 0);
    }

    public int needs(int component) throws IndexOutOfBoundsException {
        requireComponent(component);
        return descriptions.allNeeds(component);
    }

    // ---- instances

    public int resolve(int type, int qualifier) throws IllegalArgumentException, IllegalStateException {
        requireTypeAndQualifier(type, qualifier);
        return requestOrThrow(type, qualifier);
    }

    public int provide(int instance, int index)
            throws IndexOutOfBoundsException, IllegalArgumentException, IllegalStateException {
        requireInstance(instance);
        int component = ledger.components[instance];
        if (!descriptions.hasDependency(component, index)
                || descriptions.partOf(component, index, MODE_PART) != LATER) {
            throw new IllegalArgumentException("no LATER dependency has this number");
        }
        if (!ledger.living[instance]) {
            throw new IllegalStateException("the instance is not alive");
        }
        return requestOrThrow(descriptions.partOf(component, index, TYPE_PART),
                descriptions.partOf(component, index, QUALIFIER_PART));
    }

    public int start() throws IllegalStateException {
        int before = ledger.count;
        for (int component = 0; component < descriptions.count; component++) {
            if (descriptions.isStarted(component) && obtain(component, 0) == FAILED) {
                ledger.destroyPrototypesFrom(before);
                throw new IllegalStateException("an instance could not be obtained");
            }
        }
        return ledger.count - before;
    }

    public int begin() throws IllegalStateException {
        if (openScopes >= MAX_SCOPES) {
            throw new IllegalStateException("5 scopes are open");
        }
        openScopes++;
        return openScopes;
    }

    public int end() throws IllegalStateException {
        if (openScopes == 0) {
            throw new IllegalStateException("no scope is open");
        }
        return closeInnermostScope();
    }

    public int close() {
        int destroyed = 0;
        for (int open = openScopes; open > 0; open--) {
            destroyed += closeInnermostScope();
        }
        return destroyed + ledger.destroyAllIn(SINGLETON_PLACE);
    }

    public int instances() {
        return ledger.count;
    }

    public int componentOf(int instance) throws IndexOutOfBoundsException {
        requireInstance(instance);
        return ledger.components[instance];
    }

    public boolean isAlive(int instance) throws IndexOutOfBoundsException {
        requireInstance(instance);
        return ledger.living[instance];
    }

    public int injected(int instance, int index) throws IndexOutOfBoundsException, IllegalArgumentException {
        requireInstance(instance);
        if (!ledger.hasInjection(instance, index)) {
            throw new IllegalArgumentException("the component had no such dependency");
        }
        return ledger.injections[instance * MAX_DEPENDENCIES + index];
    }

    public int event(int index) {
        if (index == -1) {
            return ledger.eventCount;
        }
        return index >= 0 && index < ledger.eventCount ? ledger.events[index] : NONE;
    }

    // ---- the recorded failure

    public int failureKind() {
        return failure.kind;
    }

    public int failureDetail() {
        return failure.detail;
    }

    public int failureChain(int index) {
        if (index == -1) {
            return failure.chainLength;
        }
        return index >= 0 && index < failure.chainLength ? failure.chain[index] : NONE;
    }

    // ---- arguments

    private static boolean isBetween(int value, int lowest, int highest) {
        return value >= lowest && value <= highest;
    }

    private static boolean isPropertyValue(int property, int value) {
        return isBetween(value, LOWEST_VALUES[property], HIGHEST_VALUES[property]);
    }

    private void requireComponent(int component) {
        if (component < 0 || component >= descriptions.count) {
            throw new IndexOutOfBoundsException("there is no such component");
        }
    }

    private void requireInstance(int instance) {
        if (instance < 0 || instance >= ledger.count) {
            throw new IndexOutOfBoundsException("there is no such instance");
        }
    }

    private void requireProperty(int property) {
        if (!isBetween(property, TYPES, FAIL_AT)) {
            throw new IllegalArgumentException("there is no such property");
        }
    }

    private void requireTypeAndQualifier(int type, int qualifier) {
        if (!isBetween(type, 0, HIGHEST_TYPE) || !isBetween(qualifier, NONE, HIGHEST_QUALIFIER)) {
            throw new IllegalArgumentException("type or qualifier is out of range");
        }
    }

    // ---- the trial behind problem(): the first problem that is met, 0 if there is none

    // underConstruction grows by a component at each level and a component in it is refused,
    // so the trial goes at most 20 levels deep. A component that has been found sound is not
    // tried again: nothing that it needs can lead back to it, however it is reached.
    private int tryConstruction(int component, int underConstruction) {
        int bit = 1 << component;
        if ((underConstruction & bit) != 0) {
            return CYCLE;
        }
        if ((soundComponents & bit) != 0) {
            return 0;
        }
        for (int index = 0; index < descriptions.dependencyCounts[component]; index++) {
            int kind = tryDependency(component, index, underConstruction | bit);
            if (kind != 0) {
                return kind;
            }
        }
        soundComponents |= bit;
        return 0;
    }

    private int tryDependency(int component, int index, int underConstruction) {
        int mode = descriptions.partOf(component, index, MODE_PART);
        if (mode == LATER) {
            return 0;
        }
        int candidates = descriptions.candidatesFor(component, index);
        if (mode == ALL) {
            return tryEach(candidates, underConstruction);
        }
        if (candidates == 0) {
            return mode == OPTIONAL ? 0 : NO_CANDIDATE;
        }
        int choice = descriptions.choiceAmong(candidates);
        return choice == NONE ? AMBIGUOUS : tryConstruction(choice, underConstruction);
    }

    private int tryEach(int candidates, int underConstruction) {
        for (int component = 0; component < descriptions.count; component++) {
            if (isIn(candidates, component)) {
                int kind = tryConstruction(component, underConstruction);
                if (kind != 0) {
                    return kind;
                }
            }
        }
        return 0;
    }

    // ---- construction: each method answers FAILED after it has recorded the failure

    private int requestOrThrow(int type, int qualifier) {
        int before = ledger.count;
        int instance = request(type, qualifier, 0);
        if (instance == FAILED) {
            ledger.destroyPrototypesFrom(before);
            throw new IllegalStateException("the request failed");
        }
        return instance;
    }

    private int request(int type, int qualifier, int depth) {
        int candidates = descriptions.candidateMask(type, qualifier);
        if (candidates == 0) {
            return recordFailure(NO_CANDIDATE, type, depth);
        }
        int choice = descriptions.choiceAmong(candidates);
        return choice == NONE ? recordFailure(AMBIGUOUS, type, depth) : obtain(choice, depth);
    }

    private int obtain(int component, int depth) {
        int scope = descriptions.properties[component][SCOPE];
        if (scope == PROTOTYPE) {
            return construct(component, NONE, depth);
        }
        if (scope == SCOPED && openScopes == 0) {
            return recordFailure(NO_SCOPE, component, depth);
        }
        int place = scope == SINGLETON ? SINGLETON_PLACE : openScopes;
        int kept = ledger.kept[place][component];
        return kept == NONE ? construct(component, place, depth) : kept;
    }

    // A component that is under construction already is refused, so no more than 20 are at once.
    private int construct(int component, int place, int depth) {
        if (depth >= MAX_COMPONENTS || isUnderConstruction(component, depth)) {
            return recordFailure(CYCLE, component, depth);
        }
        chain[depth] = component;
        int dependencies = descriptions.dependencyCounts[component];
        for (int index = 0; index < dependencies; index++) {
            int value = inject(component, index, depth + 1);
            if (value == FAILED) {
                return FAILED;
            }
            injecting[depth][index] = value;
        }
        return complete(component, place, depth);
    }

    private boolean isUnderConstruction(int component, int depth) {
        for (int outer = 0; outer < depth; outer++) {
            if (chain[outer] == component) {
                return true;
            }
        }
        return false;
    }

    private int inject(int component, int index, int depth) {
        int mode = descriptions.partOf(component, index, MODE_PART);
        if (mode == LATER) {
            return NONE;
        }
        int candidates = descriptions.candidatesFor(component, index);
        if (mode == ALL) {
            return obtainEach(candidates, depth);
        }
        if (mode == OPTIONAL && candidates == 0) {
            return NONE;
        }
        return request(descriptions.partOf(component, index, TYPE_PART),
                descriptions.partOf(component, index, QUALIFIER_PART), depth);
    }

    private int obtainEach(int candidates, int depth) {
        int obtained = 0;
        for (int component = 0; component < descriptions.count; component++) {
            if (isIn(candidates, component)) {
                if (obtain(component, depth) == FAILED) {
                    return FAILED;
                }
                obtained++;
            }
        }
        return obtained;
    }

    private int complete(int component, int place, int depth) {
        if (ledger.count >= MAX_INSTANCES) {
            return recordFailure(LIMIT, component, depth + 1);
        }
        int failAt = descriptions.properties[component][FAIL_AT];
        if (failAt != NONE && ledger.completedOf[component] >= failAt) {
            return recordFailure(BROKEN, component, depth + 1);
        }
        return ledger.append(component, place, injecting[depth], descriptions.dependencyCounts[component]);
    }

    private int recordFailure(int kind, int detail, int chainLength) {
        failure.remember(kind, detail, chain, chainLength);
        return FAILED;
    }

    private int closeInnermostScope() {
        int destroyed = ledger.destroyAllIn(openScopes);
        openScopes--;
        return destroyed;
    }

    private static boolean isIn(int mask, int number) {
        return (mask & 1 << number) != 0;
    }

    /** The components as they are described now, and the choices among them. */
    private static final class Descriptions {
        private final int[][] properties = new int[MAX_COMPONENTS][PROPERTY_COUNT];
        private final int[][] dependencies = new int[MAX_COMPONENTS][MAX_DEPENDENCIES * PART_COUNT];
        private final int[] dependencyCounts = new int[MAX_COMPONENTS];
        private int count = 0;
        private int profilesOn = 0;

        int append(int types, int scope) {
            int[] added = properties[count];
            added[TYPES] = types;
            added[SCOPE] = scope;
            added[QUALIFIER] = NONE;
            added[PROFILE] = NONE;
            added[FAIL_AT] = NONE;
            count++;
            return count - 1;
        }

        int appendDependency(int component, int type, int qualifier, int mode) {
            int index = dependencyCounts[component];
            int first = index * PART_COUNT;
            dependencies[component][first + TYPE_PART] = type;
            dependencies[component][first + QUALIFIER_PART] = qualifier;
            dependencies[component][first + MODE_PART] = mode;
            dependencyCounts[component] = index + 1;
            return index;
        }

        boolean hasDependency(int component, int index) {
            return index >= 0 && index < dependencyCounts[component];
        }

        int partOf(int component, int index, int part) {
            return dependencies[component][index * PART_COUNT + part];
        }

        void turnProfile(int profile, boolean on) {
            int bit = 1 << profile;
            profilesOn = on ? profilesOn | bit : profilesOn & ~bit;
        }

        boolean isActive(int component) {
            int profile = properties[component][PROFILE];
            return profile == NONE || (profilesOn & 1 << profile) != 0;
        }

        boolean isStarted(int component) {
            return isActive(component) && properties[component][SCOPE] == SINGLETON
                    && properties[component][LAZY] == 0;
        }

        boolean provides(int component, int type, int qualifier) {
            return (properties[component][TYPES] & 1 << type) != 0
                    && (qualifier == NONE || properties[component][QUALIFIER] == qualifier);
        }

        int candidateMask(int type, int qualifier) {
            int mask = 0;
            for (int component = 0; component < count; component++) {
                if (isActive(component) && provides(component, type, qualifier)) {
                    mask |= 1 << component;
                }
            }
            return mask;
        }

        int candidatesFor(int component, int index) {
            return candidateMask(partOf(component, index, TYPE_PART), partOf(component, index, QUALIFIER_PART));
        }

        int choiceAmong(int candidates) {
            int single = singleIn(candidates);
            return single != NONE ? single : singleIn(candidates & primaryMask());
        }

        int singleIn(int mask) {
            for (int component = 0; component < count; component++) {
                if (mask == 1 << component) {
                    return component;
                }
            }
            return NONE;
        }

        int primaryMask() {
            int mask = 0;
            for (int component = 0; component < count; component++) {
                mask |= properties[component][PRIMARY] << component;
            }
            return mask;
        }

        int directNeeds(int component) {
            int mask = 0;
            for (int index = 0; index < dependencyCounts[component]; index++) {
                mask |= needsOfDependency(component, index);
            }
            return mask;
        }

        int needsOfDependency(int component, int index) {
            int mode = partOf(component, index, MODE_PART);
            if (mode == LATER) {
                return 0;
            }
            int candidates = candidatesFor(component, index);
            if (mode == ALL) {
                return candidates;
            }
            int choice = choiceAmong(candidates);
            return choice == NONE ? 0 : 1 << choice;
        }

        // Each round goes a step further, and no shortest way is longer than there are components.
        int allNeeds(int component) {
            int mask = directNeeds(component);
            for (int round = 0; round < count; round++) {
                int before = mask;
                for (int needed = 0; needed < count; needed++) {
                    if (isIn(before, needed)) {
                        mask |= directNeeds(needed);
                    }
                }
                if (mask == before) {
                    return mask;
                }
            }
            return mask;
        }
    }

    /** The instances that have been completed, where they are kept, and the events. */
    private static final class Ledger {
        private final int[] components = new int[MAX_INSTANCES];
        private final int[] places = new int[MAX_INSTANCES];
        private final boolean[] living = new boolean[MAX_INSTANCES];
        private final int[] injections = new int[MAX_INSTANCES * MAX_DEPENDENCIES];
        private final int[] injectionCounts = new int[MAX_INSTANCES];
        private int count = 0;

        // The living instance of each component in each place.
        private final int[][] kept = new int[MAX_SCOPES + 1][MAX_COMPONENTS];
        private final int[] completedOf = new int[MAX_COMPONENTS];

        // An instance is completed once and destroyed at most once.
        private final int[] events = new int[2 * MAX_INSTANCES];
        private int eventCount = 0;

        Ledger() {
            for (int[] place : kept) {
                Arrays.fill(place, NONE);
            }
        }

        int append(int component, int place, int[] injected, int injectedCount) {
            int instance = count;
            components[instance] = component;
            places[instance] = place;
            living[instance] = true;
            System.arraycopy(injected, 0, injections, instance * MAX_DEPENDENCIES, injectedCount);
            injectionCounts[instance] = injectedCount;
            if (place != NONE) {
                kept[place][component] = instance;
            }
            completedOf[component]++;
            count++;
            recordEvent(2 * instance);
            return instance;
        }

        boolean hasInjection(int instance, int index) {
            return index >= 0 && index < injectionCounts[instance];
        }

        int destroyAllIn(int place) {
            return destroyFrom(0, place);
        }

        void destroyPrototypesFrom(int first) {
            destroyFrom(first, NONE);
        }

        private int destroyFrom(int first, int place) {
            int destroyed = 0;
            for (int instance = count - 1; instance >= first; instance--) {
                if (living[instance] && places[instance] == place) {
                    destroy(instance);
                    destroyed++;
                }
            }
            return destroyed;
        }

        private void destroy(int instance) {
            living[instance] = false;
            int place = places[instance];
            if (place != NONE) {
                kept[place][components[instance]] = NONE;
            }
            recordEvent(2 * instance + 1);
        }

        private void recordEvent(int code) {
            if (eventCount < events.length) {
                events[eventCount] = code;
                eventCount++;
            }
        }
    }

    /** The failure that was recorded last. */
    private static final class Failure {
        private int kind = 0;
        private int detail = NONE;
        private final int[] chain = new int[MAX_COMPONENTS];
        private int chainLength = 0;

        void remember(int failureKind, int failureDetail, int[] underConstruction, int length) {
            kind = failureKind;
            detail = failureDetail;
            System.arraycopy(underConstruction, 0, chain, 0, length);
            chainLength = length;
        }
    }
}
