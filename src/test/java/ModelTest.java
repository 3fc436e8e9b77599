import java.util.ArrayList;
import java.util.Arrays;
import java.util.HashSet;
import java.util.List;
import java.util.NoSuchElementException;
import java.util.Random;
import java.util.Set;
import java.util.function.LongSupplier;

/**
 * Long runs of drawn calls (the seeds are fixed) on the gateway and on a model that follows the words of the
 * document one by one: it tries every plan there is, and asks for each node's answer by recursion.
 */
public final class ModelTest {
    private static final int RUNS = 2500;
    private static final int CALLS = 512;

    private static final class Field {
        final int leads;
        final boolean required;
        final boolean[] owners = new boolean[4];
        final int[] values = new int[20];

        Field(int leads, boolean required) {
            this.leads = leads;
            this.required = required;
            Arrays.fill(values, -1);
        }
    }

    private static final class Node {
        final int above;
        final int type;
        final int number;
        final Field field;

        Node(int above, int type, int number, Field field) {
            this.above = above;
            this.type = type;
            this.number = number;
            this.field = field;
        }
    }

    private static final class Model {
        final List<List<Field>> types = new ArrayList<>();
        final List<Node> nodes = new ArrayList<>();
        boolean[] failed = new boolean[4];
        int queryType = 0;
        int[] plan;
        int planHops;

        Model() {
            for (int type = 0; type < 4; type++) {
                types.add(new ArrayList<>());
            }
        }

        static void need(boolean holds, RuntimeException otherwise) {
            if (!holds) {
                throw otherwise;
            }
        }

        static boolean in(int number, int bound) {
            return number >= 0 && number < bound;
        }

        static void argument(boolean holds) {
            need(holds, new IllegalArgumentException());
        }

        static void index(boolean holds) {
            need(holds, new IndexOutOfBoundsException());
        }

        static void state(boolean holds) {
            need(holds, new IllegalStateException());
        }

        long addField(int type, int leads, boolean required) {
            argument(in(type, 4) && in(leads + 1, 5));
            state(types.get(type).size() < 8);
            types.get(type).add(new Field(leads, required));
            return types.get(type).size() - 1;
        }

        long own(int service, int type, int field, boolean belongs) {
            argument(in(service, 4) && in(type, 4));
            index(in(field, types.get(type).size()));
            boolean[] owners = types.get(type).get(field).owners;
            boolean before = owners[service];
            owners[service] = belongs;
            plan = null;
            return before ? 1 : 0;
        }

        long set(int type, int key, int field, int value) {
            argument(in(type, 4) && in(key, 20));
            boolean there = in(field, types.get(type).size());
            argument(!there || value == -1 || in(value, types.get(type).get(field).leads == -1 ? 100 : 20));
            index(there);
            int[] values = types.get(type).get(field).values;
            int before = values[key];
            values[key] = value;
            return before;
        }

        long fail(int service, boolean now) {
            argument(in(service, 4));
            boolean before = failed[service];
            failed[service] = now;
            return before ? 1 : 0;
        }

        long begin(int type) {
            argument(in(type, 4));
            int before = nodes.size();
            nodes.clear();
            queryType = type;
            plan = null;
            return before;
        }

        long node(int above, int field) {
            index(above == -1 || in(above, nodes.size()));
            int type = above == -1 ? queryType : nodes.get(above).field.leads;
            state(type != -1);
            index(in(field, types.get(type).size()));
            state(nodes.size() < 12);
            int there = 0;
            for (Node node : nodes) {
                if (node.above == above) {
                    there++;
                    state(node.number != field);
                }
            }
            state(there < 4);
            nodes.add(new Node(above, type, field, types.get(type).get(field)));
            plan = null;
            return nodes.size() - 1;
        }

        /** How many plans there are to be tried. */
        long ways() {
            long ways = 1;
            for (Node node : nodes) {
                int owners = 0;
                for (boolean owner : node.field.owners) {
                    owners += owner ? 1 : 0;
                }
                ways *= owners;
            }
            return ways;
        }

        long hopsOf(int[] taken) {
            long hops = 0;
            for (int place = -1; place < nodes.size(); place++) {
                Set<Integer> services = new HashSet<>();
                for (int node = 0; node < nodes.size(); node++) {
                    if (nodes.get(node).above == place) {
                        services.add(taken[node]);
                    }
                }
                if (place != -1) {
                    services.remove(taken[place]);
                }
                hops += services.size();
            }
            return hops;
        }

        /** The first of the shortest in the order of the services, as lower services are tried first. */
        void tryFrom(int node, int[] taken) {
            if (node == nodes.size()) {
                int hops = (int) hopsOf(taken);
                if (plan == null || hops < planHops) {
                    plan = taken.clone();
                    planHops = hops;
                }
                return;
            }
            for (int service = 0; service < 4; service++) {
                if (nodes.get(node).field.owners[service]) {
                    taken[node] = service;
                    tryFrom(node + 1, taken);
                }
            }
        }

        void needPlan() {
            if (plan == null) {
                tryFrom(0, new int[nodes.size()]);
            }
            state(plan != null);
        }

        long hops() {
            needPlan();
            return planHops;
        }

        long takenFrom(int node) {
            index(in(node, nodes.size()));
            needPlan();
            return plan[node];
        }

        long used() {
            needPlan();
            Set<Integer> services = new HashSet<>();
            for (int service : plan) {
                services.add(service);
            }
            long sum = 0;
            for (int service : services) {
                sum += (long) Math.pow(2, service);
            }
            return sum;
        }

        /** The key of the entity in which a node stands, -1 if it is not there. */
        int entity(int key, int node, boolean[] down) {
            int above = nodes.get(node).above;
            return above == -1 ? key : raw(key, above, down);
        }

        int raw(int key, int node, boolean[] down) {
            int entity = entity(key, node, down);
            return entity == -1 || down[plan[node]] ? -1 : nodes.get(node).field.values[entity];
        }

        boolean missingByItself(int key, int node, boolean[] down) {
            return raw(key, node, down) == -1 || requiredMissing(key, node, down);
        }

        boolean requiredMissing(int key, int place, boolean[] down) {
            for (int node = 0; node < nodes.size(); node++) {
                Node below = nodes.get(node);
                if (below.above == place && below.field.required && missingByItself(key, node, down)) {
                    return true;
                }
            }
            return false;
        }

        int told(int key, int node, boolean[] down) {
            if (requiredMissing(key, -1, down)) {
                return -1;
            }
            for (int at = node; at != -1; at = nodes.get(at).above) {
                if (missingByItself(key, at, down)) {
                    return -1;
                }
            }
            return raw(key, node, down);
        }

        long value(int key, int node) {
            argument(in(key, 20));
            index(in(node, nodes.size()));
            needPlan();
            return told(key, node, failed);
        }

        long isMissing(int key) {
            argument(in(key, 20));
            needPlan();
            return requiredMissing(key, -1, failed) ? 1 : 0;
        }

        long faults(int key) {
            argument(in(key, 20));
            needPlan();
            long count = 0;
            for (int node = 0; node < nodes.size(); node++) {
                count += entity(key, node, failed) != -1 && raw(key, node, failed) == -1 ? 1 : 0;
            }
            return count;
        }

        long loaded(int node, int first, int last) {
            argument(in(first, 20) && in(last, 20) && first <= last);
            index(in(node, nodes.size()));
            state(nodes.get(node).field.leads != -1);
            needPlan();
            Set<Integer> keys = new HashSet<>();
            for (int key = first; key <= last; key++) {
                keys.add(told(key, node, failed));
            }
            keys.remove(-1);
            return keys.size();
        }

        long harmed() {
            needPlan();
            boolean[] none = new boolean[4];
            long count = 0;
            for (int key = 0; key < 20; key++) {
                boolean differs = requiredMissing(key, -1, failed) != requiredMissing(key, -1, none);
                for (int node = 0; node < nodes.size(); node++) {
                    differs |= told(key, node, failed) != told(key, node, none);
                }
                count += differs ? 1 : 0;
            }
            return count;
        }

        long least(int node) {
            index(in(node, nodes.size()));
            needPlan();
            long best = -1;
            long found = -1;
            for (int key = 0; key < 20; key++) {
                long value = told(key, node, failed);
                if (value != -1 && (found == -1 || value < best)) {
                    best = value;
                    found = key;
                }
            }
            need(found != -1, new NoSuchElementException());
            return found;
        }
    }

    private final Random random;
    private int keys;
    private final QueryGateway gateway = new QueryGateway();
    private final Model model = new Model();

    private ModelTest(long seed) {
        random = new Random(seed);
    }

    public static void main(String[] args) {
        for (int run = 0; run < RUNS; run++) {
            new ModelTest(run).run(run);
        }
        Check.end();
    }

    /** Mostly within 0 to bound - 1, now and then a little or far outside. */
    private int draw(int bound) {
        int kind = random.nextInt(120);
        if (kind == 0) {
            return random.nextInt(2) == 0 ? -2 : -1;
        }
        if (kind == 1) {
            return bound + random.nextInt(2);
        }
        if (kind == 2) {
            return random.nextInt(2) == 0 ? Integer.MIN_VALUE : Integer.MAX_VALUE;
        }
        return bound <= 0 ? 0 : random.nextInt(bound);
    }

    /** In most runs from a few keys, so that many entities have values for what is asked. */
    private int drawKey() {
        return draw(keys);
    }

    private void run(int run) {
        keys = run % 3 == 0 ? 20 : 2 + random.nextInt(4);
        int ownership = 1 + random.nextInt(8);
        int requiredOf10 = random.nextInt(6);
        int fieldsAtFirst = run % 4 == 0 ? random.nextInt(8) : 12 + random.nextInt(20);
        for (int call = 0; call < CALLS; call++) {
            if (call < fieldsAtFirst) {
                addField(run, requiredOf10);
            } else if (call < Math.min(200, fieldsAtFirst * (1 + ownership))) {
                own(run);
            } else if (call < 300) {
                change(run, requiredOf10);
            } else if (random.nextInt(3) == 0) {
                change(run, requiredOf10);
            } else {
                ask(run);
            }
        }
    }

    private void same(int run, String call, LongSupplier got, LongSupplier due) {
        String want = Check.outcome(due);
        Check.same("run " + run + ": " + call, Check.outcome(got), want);
    }

    private void addField(int run, int requiredOf10) {
        int type = draw(4);
        int leads = random.nextInt(3) == 0 ? -1 : draw(4);
        boolean required = random.nextInt(10) < requiredOf10;
        same(run, "addField(" + type + ", " + leads + ", " + required + ")",
                () -> gateway.addField(type, leads, required), () -> model.addField(type, leads, required));
    }

    private void own(int run) {
        int service = draw(4);
        int type = draw(4);
        int field = draw(type >= 0 && type < 4 ? model.types.get(type).size() : 8);
        boolean belongs = random.nextInt(8) != 0;
        same(run, "own(" + service + ", " + type + ", " + field + ", " + belongs + ")",
                () -> gateway.own(service, type, field, belongs) ? 1 : 0,
                () -> model.own(service, type, field, belongs));
    }

    private void set(int run) {
        int type = draw(4);
        int key = drawKey();
        int field = draw(type >= 0 && type < 4 ? model.types.get(type).size() : 8);
        int value = random.nextInt(12) == 0 ? -1 : draw(random.nextInt(10) == 0 ? 100 : keys);
        same(run, "set(" + type + ", " + key + ", " + field + ", " + value + ")",
                () -> gateway.set(type, key, field, value), () -> model.set(type, key, field, value));
    }

    private void node(int run) {
        int above = random.nextInt(4) == 0 ? -1 : draw(model.nodes.size());
        int field = draw(random.nextInt(4) == 0 ? 8 : 3);
        same(run, "node(" + above + ", " + field + ")",
                () -> gateway.node(above, field), () -> model.node(above, field));
        // The model tries every plan, so a query with too many of them is cut off.
        while (model.ways() > 20000) {
            Node last = model.nodes.get(model.nodes.size() - 1);
            for (int service = 0; service < 4; service++) {
                if (last.field.owners[service] && model.ways() > 20000) {
                    int of = service;
                    same(run, "own(" + of + ", " + last.type + ", " + last.number + ", false)",
                            () -> gateway.own(of, last.type, last.number, false) ? 1 : 0,
                            () -> model.own(of, last.type, last.number, false));
                }
            }
        }
    }

    private void change(int run, int requiredOf10) {
        int kind = random.nextInt(100);
        if (kind < 2) {
            addField(run, requiredOf10);
        } else if (kind < 8) {
            if (model.ways() < 2000) {
                own(run);
            }
        } else if (kind < 75) {
            set(run);
        } else if (kind < 80) {
            int service = draw(4);
            boolean failed = random.nextInt(3) == 0;
            same(run, "fail(" + service + ", " + failed + ")",
                    () -> gateway.fail(service, failed) ? 1 : 0, () -> model.fail(service, failed));
        } else if (kind < 81) {
            int type = draw(4);
            same(run, "begin(" + type + ")", () -> gateway.begin(type), () -> model.begin(type));
        } else {
            node(run);
        }
    }

    private void ask(int run) {
        int key = drawKey();
        int last = Math.max(key, draw(20));
        int node = draw(model.nodes.size());
        switch (random.nextInt(12)) {
            case 0 -> same(run, "nodes()", gateway::nodes, model.nodes::size);
            case 1 -> same(run, "typeOf(" + node + ")", () -> gateway.typeOf(node), () -> {
                Model.index(Model.in(node, model.nodes.size()));
                return model.nodes.get(node).type;
            });
            case 2 -> same(run, "hops()", gateway::hops, model::hops);
            case 3 -> same(run, "takenFrom(" + node + ")",
                    () -> gateway.takenFrom(node), () -> model.takenFrom(node));
            case 4 -> same(run, "used()", gateway::used, model::used);
            case 5 -> same(run, "value(" + key + ", " + node + ")",
                    () -> gateway.value(key, node), () -> model.value(key, node));
            case 6 -> same(run, "isMissing(" + key + ")",
                    () -> gateway.isMissing(key) ? 1 : 0, () -> model.isMissing(key));
            case 7 -> same(run, "faults(" + key + ")", () -> gateway.faults(key), () -> model.faults(key));
            case 8 -> same(run, "loaded(" + node + ", " + key + ", " + last + ")",
                    () -> gateway.loaded(node, key, last), () -> model.loaded(node, key, last));
            case 9 -> same(run, "loaded(" + node + ", " + last + ", " + key + ")",
                    () -> gateway.loaded(node, last, key), () -> model.loaded(node, last, key));
            case 10 -> same(run, "harmed()", gateway::harmed, model::harmed);
            default -> same(run, "least(" + node + ")", () -> gateway.least(node), () -> model.least(node));
        }
    }
}
