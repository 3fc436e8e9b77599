import java.util.ArrayList;
import java.util.List;
import java.util.Random;

/**
 * Plans of full queries whose fields belong to many services: there are too many of them for the model to try
 * each, so this one tries all services of the nodes at one place together, from the lowest place up.
 */
public final class PlanTest {
    private static final int QUERIES = 600;
    private static final int FAR = 1_000_000;

    private final Random random;
    private final QueryGateway gateway = new QueryGateway();
    private final int[] owners = new int[8];
    /** Of each node the one above it, and the services among which it may still be taken. */
    private final List<Integer> above = new ArrayList<>();
    private final List<Integer> open = new ArrayList<>();

    private PlanTest(long seed) {
        random = new Random(seed);
    }

    public static void main(String[] args) {
        for (int query = 0; query < QUERIES; query++) {
            new PlanTest(query).run("query " + query);
        }
        Check.end();
    }

    private void run(String query) {
        addFields();
        addNodes();
        int fewest = fewestHops(-1, -1);
        Check.same(query + ": hops", gateway.hops(), fewest);
        int services = 0;
        for (int node = 0; node < above.size(); node++) {
            int due = lowestService(node, fewest);
            services |= 1 << due;
            Check.same(query + ": takenFrom(" + node + ")", gateway.takenFrom(node), due);
        }
        Check.same(query + ": used", gateway.used(), services);
    }

    private void addFields() {
        int often = 1 + random.nextInt(4);
        for (int field = 0; field < 8; field++) {
            gateway.addField(0, 0, false);
            owners[field] = 1 << random.nextInt(4);
            for (int service = 0; service < 4; service++) {
                if (random.nextInt(4) < often) {
                    owners[field] |= 1 << service;
                }
                gateway.own(service, 0, field, (owners[field] & 1 << service) != 0);
            }
        }
    }

    /** Twelve, or as many as find room in a hundred draws. */
    private void addNodes() {
        for (int draw = 0; draw < 100 && above.size() < 12; draw++) {
            int place = random.nextInt(above.size() + 1) - 1;
            int field = random.nextInt(8);
            try {
                gateway.node(place, field);
                above.add(place);
                open.add(owners[field]);
            } catch (IllegalStateException full) {
                // The place is full, or has this field: the next draw may find room.
            }
        }
    }

    /** Fixes the node to the lowest service that leaves the hops of the whole plan as few as they are. */
    private int lowestService(int node, int fewest) {
        int all = open.get(node);
        for (int service = 0; service < 4; service++) {
            if ((all & 1 << service) != 0) {
                open.set(node, 1 << service);
                if (fewestHops(-1, -1) == fewest) {
                    return service;
                }
            }
        }
        return -1;
    }

    private int fewestHops(int place, int home) {
        List<Integer> there = new ArrayList<>();
        for (int node = 0; node < above.size(); node++) {
            if (above.get(node) == place) {
                there.add(node);
            }
        }
        int[][] below = new int[there.size()][4];
        for (int at = 0; at < there.size(); at++) {
            for (int service = 0; service < 4; service++) {
                boolean may = (open.get(there.get(at)) & 1 << service) != 0;
                below[at][service] = may ? fewestHops(there.get(at), service) : FAR;
            }
        }
        return fewestOfAll(below, 0, home == -1 ? 0 : 1 << home, 0);
    }

    /** Tries each service for each node of the place; the services met are free from then on. */
    private static int fewestOfAll(int[][] below, int at, int met, int hops) {
        if (at == below.length || hops >= FAR) {
            return hops;
        }
        int fewest = FAR;
        for (int service = 0; service < 4; service++) {
            int more = (met & 1 << service) == 0 ? 1 : 0;
            int sum = hops + more + below[at][service];
            fewest = Math.min(fewest, fewestOfAll(below, at + 1, met | 1 << service, sum));
        }
        return fewest;
    }
}
