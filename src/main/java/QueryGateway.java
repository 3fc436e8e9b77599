import java.util.Arrays;
import java.util.NoSuchElementException;

/** A gateway for one graph over four services: its fields, one query, the query's plan, and its answers. */
public final class QueryGateway {
    private static final int SERVICES = 4;
    private static final int TYPES = 4;
    private static final int FIELDS = 8;
    private static final int KEYS = 20;
    private static final int PLAIN_VALUES = 100;
    private static final int NODES = 12;
    private static final int NODES_AT_A_PLACE = 4;
    private static final int NONE = -1;
    private static final int TOP = -1;
    private static final int SLOTS = TYPES * FIELDS;
    private static final int SERVICE_SETS = 1 << SERVICES;
    private static final int NO_FAILURES = 0;
    /** Above the hops of any plan, which has one for each node at most, and far from an overflow. */
    private static final int TOO_FAR = 1000;

    private final Graph graph;
    private final Query query;
    private final Plan plan;
    private final Answer answer;
    private final Answer unharmed;

    public QueryGateway() {
        Graph fields = new Graph();
        Query tree = new Query();
        Plan services = new Plan(fields, tree);
        graph = fields;
        query = tree;
        plan = services;
        answer = new Answer(fields, tree, services);
        unharmed = new Answer(fields, tree, services);
    }

    // ---- types, fields, services

    public int addField(int type, int leads, boolean required)
            throws IllegalArgumentException, IllegalStateException {
        checkType(type);
        if (leads != NONE && !isType(leads)) {
            throw new IllegalArgumentException("a field is plain or leads to a type from 0 to 3");
        }
        if (graph.fieldsOf(type) >= FIELDS) {
            throw new IllegalStateException("the type has 8 fields");
        }
        return graph.append(type, leads, required);
    }

    public boolean own(int service, int type, int field, boolean belongs)
            throws IllegalArgumentException, IndexOutOfBoundsException {
        checkService(service);
        checkType(type);
        checkField(type, field);
        plan.forget();
        return graph.putOwner(slotOf(type, field), service, belongs);
    }

    public int set(int type, int key, int field, int value)
            throws IllegalArgumentException, IndexOutOfBoundsException {
        checkType(type);
        checkKey(key);
        checkField(type, field);
        int slot = slotOf(type, field);
        if (!graph.takes(slot, value)) {
            throw new IllegalArgumentException("the value is out of the field's range");
        }
        return graph.putValue(slot, key, value);
    }

    public boolean fail(int service, boolean failed) throws IllegalArgumentException {
        checkService(service);
        return graph.putFailed(service, failed);
    }

    // ---- the query

    public int begin(int type) throws IllegalArgumentException {
        checkType(type);
        plan.forget();
        return query.restart(type);
    }

    public int node(int above, int field) throws IndexOutOfBoundsException, IllegalStateException {
        if (above != TOP) {
            checkNode(above);
        }
        int type = typeAt(above);
        if (type == NONE) {
            throw new IllegalStateException("the field of the node above is plain");
        }
        checkField(type, field);
        int slot = slotOf(type, field);
        if (!query.hasRoom(above, slot)) {
            throw new IllegalStateException("there is no room for this node");
        }
        plan.forget();
        return query.append(above, slot);
    }

    public int nodes() {
        return query.size();
    }

    public int typeOf(int node) throws IndexOutOfBoundsException {
        checkNode(node);
        return query.slotAt(node) / FIELDS;
    }

    // ---- plans

    public int hops() throws IllegalStateException {
        checkPlan();
        return plan.length();
    }

    public int takenFrom(int node) throws IndexOutOfBoundsException, IllegalStateException {
        checkNode(node);
        checkPlan();
        return plan.serviceOf(node);
    }

    public int used() throws IllegalStateException {
        checkPlan();
        int services = 0;
        for (int node = 0; node < query.size(); node++) {
            services |= bit(plan.serviceOf(node));
        }
        return services;
    }

    // ---- answers

    public int value(int key, int node)
            throws IllegalArgumentException, IndexOutOfBoundsException, IllegalStateException {
        checkKey(key);
        checkNode(node);
        checkPlan();
        answer.read(key, graph.failures());
        return answer.told(node);
    }

    public boolean isMissing(int key) throws IllegalArgumentException, IllegalStateException {
        checkKey(key);
        checkPlan();
        answer.read(key, graph.failures());
        return answer.isAllMissing();
    }

    public int faults(int key) throws IllegalArgumentException, IllegalStateException {
        checkKey(key);
        checkPlan();
        answer.read(key, graph.failures());
        return answer.countFaults();
    }

    public int loaded(int node, int first, int last)
            throws IllegalArgumentException, IndexOutOfBoundsException, IllegalStateException {
        checkKey(first);
        checkKey(last);
        if (last < first) {
            throw new IllegalArgumentException("the last key is below the first one");
        }
        checkNode(node);
        if (typeAt(node) == NONE) {
            throw new IllegalStateException("the field of the node is plain");
        }
        checkPlan();
        int keys = 0;
        for (int key = first; key <= last; key++) {
            answer.read(key, graph.failures());
            keys |= bit(answer.told(node));
        }
        return Integer.bitCount(keys);
    }

    public int harmed() throws IllegalStateException {
        checkPlan();
        int count = 0;
        for (int key = 0; key < KEYS; key++) {
            answer.read(key, graph.failures());
            unharmed.read(key, NO_FAILURES);
            if (answer.differsFrom(unharmed)) {
                count++;
            }
        }
        return count;
    }

    public int least(int node)
            throws IndexOutOfBoundsException, IllegalStateException, java.util.NoSuchElementException {
        checkNode(node);
        checkPlan();
        int found = NONE;
        int least = NONE;
        for (int key = 0; key < KEYS; key++) {
            answer.read(key, graph.failures());
            int value = answer.told(node);
            if (value != NONE && (found == NONE || value < least)) {
                found = key;
                least = value;
            }
        }
        if (found == NONE) {
            throw new NoSuchElementException("the node is missing in all answers");
        }
        return found;
    }

    // ---- what the calls have in common

    private static boolean isService(int service) {
        return service >= 0 && service < SERVICES;
    }

    private static boolean isType(int type) {
        return type >= 0 && type < TYPES;
    }

    private static boolean isKey(int key) {
        return key >= 0 && key < KEYS;
    }

    private static boolean isSlot(int slot) {
        return slot >= 0 && slot < SLOTS;
    }

    /** A slot is the one number that stands for a type and a field of it. */
    private static int slotOf(int type, int field) {
        return type * FIELDS + field;
    }

    /** No bit for NONE, so that sets of services and of keys may be joined without asking first. */
    private static int bit(int number) {
        return number < 0 ? 0 : 1 << number;
    }

    private static void checkService(int service) {
        if (!isService(service)) {
            throw new IllegalArgumentException("a service is 0 to 3");
        }
    }

    private static void checkType(int type) {
        if (!isType(type)) {
            throw new IllegalArgumentException("a type is 0 to 3");
        }
    }

    private static void checkKey(int key) {
        if (!isKey(key)) {
            throw new IllegalArgumentException("a key is 0 to 19");
        }
    }

    private void checkField(int type, int field) {
        if (field < 0 || field >= graph.fieldsOf(type)) {
            throw new IndexOutOfBoundsException("there is no such field");
        }
    }

    private void checkNode(int node) {
        if (!query.has(node)) {
            throw new IndexOutOfBoundsException("there is no such node");
        }
    }

    private void checkPlan() {
        if (!plan.find()) {
            throw new IllegalStateException("there is no plan");
        }
    }

    /** The type of the entities at the top or below a node, NONE below a plain one. */
    private int typeAt(int place) {
        return place == TOP ? query.type() : graph.leadsOf(query.slotAt(place));
    }

    /** The fields of the types, the services to which they belong, and the values of the entities. */
    private static final class Graph {
        private final int[] counts;
        private final int[] leads;
        private final boolean[] required;
        private final int[] owners;
        private final int[] values;
        private int failed;

        Graph() {
            counts = new int[TYPES];
            leads = new int[SLOTS];
            required = new boolean[SLOTS];
            owners = new int[SLOTS];
            values = new int[SLOTS * KEYS];
            Arrays.fill(leads, NONE);
            Arrays.fill(values, NONE);
        }

        int fieldsOf(int type) {
            return isType(type) ? counts[type] : 0;
        }

        int append(int type, int leadsTo, boolean isRequired) {
            int field = fieldsOf(type);
            int slot = slotOf(type, field);
            if (!isType(type) || field >= FIELDS || !isSlot(slot)) {
                return NONE;
            }
            leads[slot] = leadsTo;
            required[slot] = isRequired;
            counts[type] = field + 1;
            return field;
        }

        int leadsOf(int slot) {
            return isSlot(slot) ? leads[slot] : NONE;
        }

        boolean isRequired(int slot) {
            return isSlot(slot) && required[slot];
        }

        int ownersOf(int slot) {
            return isSlot(slot) ? owners[slot] : 0;
        }

        boolean putOwner(int slot, int service, boolean belongs) {
            if (!isSlot(slot)) {
                return false;
            }
            boolean before = (owners[slot] & bit(service)) != 0;
            owners[slot] = belongs ? owners[slot] | bit(service) : owners[slot] & ~bit(service);
            return before;
        }

        boolean takes(int slot, int value) {
            int bound = leadsOf(slot) == NONE ? PLAIN_VALUES : KEYS;
            return value == NONE || value >= 0 && value < bound;
        }

        /** NONE for an entity that is not there, as for a value that is none. */
        int valueOf(int slot, int key) {
            return isSlot(slot) && isKey(key) ? values[slot * KEYS + key] : NONE;
        }

        int putValue(int slot, int key, int value) {
            int before = valueOf(slot, key);
            if (isSlot(slot) && isKey(key)) {
                values[slot * KEYS + key] = value;
            }
            return before;
        }

        int failures() {
            return failed;
        }

        boolean putFailed(int service, boolean isFailed) {
            boolean before = (failed & bit(service)) != 0;
            failed = isFailed ? failed | bit(service) : failed & ~bit(service);
            return before;
        }
    }

    /** The nodes; one below another always has the higher number. */
    private static final class Query {
        private final int[] above;
        private final int[] slots;
        private int type;
        private int count;

        Query() {
            above = new int[NODES];
            slots = new int[NODES];
        }

        int restart(int newType) {
            int before = count;
            type = newType;
            count = 0;
            return before;
        }

        int type() {
            return type;
        }

        int size() {
            return count;
        }

        boolean has(int node) {
            return node >= 0 && node < count && node < NODES;
        }

        int aboveOf(int node) {
            return has(node) ? above[node] : TOP;
        }

        int slotAt(int node) {
            return has(node) ? slots[node] : NONE;
        }

        boolean hasRoom(int place, int slot) {
            int there = 0;
            for (int node = 0; node < count; node++) {
                if (aboveOf(node) == place) {
                    there++;
                    if (slotAt(node) == slot) {
                        return false;
                    }
                }
            }
            return count < NODES && there < NODES_AT_A_PLACE;
        }

        int append(int place, int slot) {
            if (count < 0 || count >= NODES) {
                return NONE;
            }
            int node = count;
            above[node] = place;
            slots[node] = slot;
            count = node + 1;
            return node;
        }
    }

    /** The service of each node, found when it is asked for and kept until the query or an owner changes. */
    private static final class Plan {
        private final Graph graph;
        private final Query query;
        private final int[] places;
        private final int[] choices;
        private final int[] hopsBelow;
        private final int[] services;
        private int count;
        private int length;
        private boolean known;
        private boolean there;

        Plan(Graph graph, Query query) {
            this.graph = graph;
            this.query = query;
            places = new int[NODES];
            choices = new int[NODES];
            hopsBelow = new int[NODES * SERVICES];
            services = new int[NODES];
        }

        void forget() {
            known = false;
        }

        /** Whether there is a plan. */
        boolean find() {
            if (!known) {
                there = openChoices();
                if (there) {
                    countHopsBelow();
                    length = hopsAt(TOP, NONE);
                    chooseServices();
                }
                known = true;
            }
            return there;
        }

        int length() {
            return length;
        }

        int serviceOf(int node) {
            return query.has(node) ? services[node] : NONE;
        }

        private boolean openChoices() {
            boolean all = true;
            count = Math.min(query.size(), NODES);
            for (int node = 0; node < count; node++) {
                places[node] = query.aboveOf(node);
                choices[node] = graph.ownersOf(query.slotAt(node));
                all = all && choices[node] != 0;
            }
            return all;
        }

        /** From the last node up, as the hops below a node build on those below the nodes below it. */
        private void countHopsBelow() {
            for (int node = count - 1; node >= 0; node--) {
                for (int service = 0; service < SERVICES; service++) {
                    hopsBelow[node * SERVICES + service] = hopsAt(node, service);
                }
            }
        }

        /**
         * The services above a node are chosen before its own, so its choice matters at its own place alone:
         * the lowest service that leaves the hops there as few as they were keeps the whole plan the shortest.
         */
        private void chooseServices() {
            for (int node = 0; node < count; node++) {
                int home = serviceOf(places[node]);
                int fewest = hopsAt(places[node], home);
                int open = choices[node];
                boolean chosen = false;
                for (int service = 0; service < SERVICES && !chosen; service++) {
                    choices[node] = open & bit(service);
                    chosen = hopsAt(places[node], home) == fewest;
                    services[node] = service;
                }
            }
        }

        /** The fewest hops at a place and all below it, if the node above is taken from home. */
        private int hopsAt(int place, int home) {
            int fewest = TOO_FAR;
            for (int set = 0; set < SERVICE_SETS && fewest > 0; set++) {
                int hops = Integer.bitCount(set & ~bit(home)) + hopsUnder(place, set);
                fewest = Math.min(fewest, hops);
            }
            return fewest;
        }

        /** The fewest hops below the nodes at a place, if each is taken from a service of the set. */
        private int hopsUnder(int place, int set) {
            int sum = 0;
            for (int node = 0; node < count; node++) {
                if (places[node] == place) {
                    int fewest = TOO_FAR;
                    for (int service = 0; service < SERVICES; service++) {
                        if ((set & choices[node] & bit(service)) != 0) {
                            fewest = Math.min(fewest, hopsBelow[node * SERVICES + service]);
                        }
                    }
                    sum += fewest;
                }
            }
            return sum;
        }
    }

    /** The answer for the key that was read last; it tells nothing of a query that has changed since. */
    private static final class Answer {
        private final Graph graph;
        private final Query query;
        private final Plan plan;
        private final int[] entities;
        private final int[] values;
        private final boolean[] missing;
        private boolean allMissing;

        Answer(Graph graph, Query query, Plan plan) {
            this.graph = graph;
            this.query = query;
            this.plan = plan;
            entities = new int[NODES];
            values = new int[NODES];
            missing = new boolean[NODES];
        }

        void read(int key, int failures) {
            readValues(key, failures);
            letMissingClimb();
            letMissingFall();
        }

        boolean isAllMissing() {
            return allMissing;
        }

        int told(int node) {
            return query.has(node) && !missing[node] ? values[node] : NONE;
        }

        /** Goes by the values alone: a node that is missing for what is below it still has its entity. */
        int countFaults() {
            int count = 0;
            for (int node = 0; node < query.size() && node < NODES; node++) {
                if (entities[node] != NONE && values[node] == NONE) {
                    count++;
                }
            }
            return count;
        }

        boolean differsFrom(Answer other) {
            boolean differs = allMissing != other.isAllMissing();
            for (int node = 0; node < query.size(); node++) {
                differs = differs || told(node) != other.told(node);
            }
            return differs;
        }

        private void readValues(int key, int failures) {
            for (int node = 0; node < query.size() && node < NODES; node++) {
                int place = query.aboveOf(node);
                int entity = query.has(place) ? values[place] : key;
                boolean lost = (failures & bit(plan.serviceOf(node))) != 0;
                entities[node] = entity;
                values[node] = lost ? NONE : graph.valueOf(query.slotAt(node), entity);
                missing[node] = values[node] == NONE;
            }
        }

        private void letMissingClimb() {
            allMissing = false;
            for (int node = Math.min(query.size(), NODES) - 1; node >= 0; node--) {
                if (missing[node] && graph.isRequired(query.slotAt(node))) {
                    int place = query.aboveOf(node);
                    if (query.has(place)) {
                        missing[place] = true;
                    } else {
                        allMissing = true;
                    }
                }
            }
        }

        private void letMissingFall() {
            for (int node = 0; node < query.size() && node < NODES; node++) {
                int place = query.aboveOf(node);
                missing[node] = missing[node] || allMissing || query.has(place) && missing[place];
            }
        }
    }
}
