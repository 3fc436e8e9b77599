import java.util.NoSuchElementException;

/** The promises 1 to 18, one after the other: ordinary inputs, edges, and wrong inputs. */
public final class PromiseTest {
    private static final Class<IllegalArgumentException> ARGUMENT = IllegalArgumentException.class;
    private static final Class<IllegalStateException> STATE = IllegalStateException.class;
    private static final Class<IndexOutOfBoundsException> INDEX = IndexOutOfBoundsException.class;
    private static final Class<NoSuchElementException> NO_SUCH = NoSuchElementException.class;
    private static final int LOW = Integer.MIN_VALUE;
    private static final int HIGH = Integer.MAX_VALUE;

    public static void main(String[] args) {
        promise1NewObject();
        promise2AddField();
        promise3Own();
        promise4Set();
        promise5Fail();
        promise6Begin();
        promise7Node();
        promise7NodeLimits();
        promise8Nodes();
        promise9TypeOf();
        promise10Hops();
        promise11TakenFrom();
        promise11TakenFromOfSeveral();
        promise12Used();
        promise13Value();
        promise14IsMissing();
        promise15Faults();
        promise16Loaded();
        promise17Harmed();
        promise18Least();
        Check.end();
    }

    private static int flag(boolean answer) {
        return answer ? 1 : 0;
    }

    /**
     * Type 0: 0 plain required, 1 leads to 1 and may be missing, 2 plain and may be missing.
     * Type 1: 0 plain required, 1 leads to 0 and may be missing.
     * Fields of type 0 belong to service 0, those of type 1 to service 1.
     */
    private static QueryGateway twoTypes() {
        QueryGateway x = new QueryGateway();
        x.addField(0, -1, true);
        x.addField(0, 1, false);
        x.addField(0, -1, false);
        x.addField(1, -1, true);
        x.addField(1, 0, false);
        for (int field = 0; field < 3; field++) {
            x.own(0, 0, field, true);
        }
        x.own(1, 1, 0, true);
        x.own(1, 1, 1, true);
        return x;
    }

    /** The nodes 0 and 1 at the top, 2 and 3 below 1, 4 below 3; the entity 0 has a value for each. */
    private static QueryGateway fullQuery() {
        QueryGateway x = twoTypes();
        x.node(-1, 0);
        x.node(-1, 1);
        x.node(1, 0);
        x.node(1, 1);
        x.node(3, 0);
        x.set(0, 0, 0, 50);
        x.set(0, 0, 1, 7);
        x.set(1, 7, 0, 60);
        x.set(1, 7, 1, 8);
        x.set(0, 8, 0, 70);
        return x;
    }

    private static void promise1NewObject() {
        QueryGateway x = new QueryGateway();
        Check.same("1 nodes", x.nodes(), 0);
        Check.same("1 hops", x.hops(), 0);
        Check.same("1 used", x.used(), 0);
        Check.same("1 harmed", x.harmed(), 0);
        Check.same("1 isMissing", x.isMissing(0), false);
        Check.same("1 faults", x.faults(19), 0);
        for (int type = 0; type < 4; type++) {
            int of = type;
            Check.throwsExactly(INDEX, "1 no field", () -> flag(x.own(0, of, 0, true)));
        }
        for (int service = 0; service < 4; service++) {
            Check.same("1 failed", x.fail(service, false), false);
        }
        x.addField(0, -1, false);
        Check.same("1 query of the type 0", x.node(-1, 0), 0);
        Check.same("1 two objects share nothing", new QueryGateway().nodes(), 0);
    }

    private static void promise2AddField() {
        QueryGateway x = new QueryGateway();
        for (int field = 0; field < 8; field++) {
            Check.same("2 number", x.addField(3, field % 2 == 0 ? -1 : 3, false), field);
        }
        Check.throwsExactly(STATE, "2 the ninth", () -> x.addField(3, -1, false));
        Check.throwsExactly(ARGUMENT, "2 leads first", () -> x.addField(3, 4, false));
        Check.throwsExactly(ARGUMENT, "2 leads -2", () -> x.addField(0, -2, false));
        Check.throwsExactly(ARGUMENT, "2 type -1", () -> x.addField(-1, -1, false));
        Check.throwsExactly(ARGUMENT, "2 type 4", () -> x.addField(4, -1, false));
        Check.throwsExactly(ARGUMENT, "2 low", () -> x.addField(LOW, LOW, false));
        Check.throwsExactly(ARGUMENT, "2 high", () -> x.addField(0, HIGH, false));
        Check.same("2 numbers of each type", x.addField(0, 0, true), 0);
        Check.same("2 a field belongs to nobody", x.own(0, 0, 0, false), false);
        Check.same("2 a throw changes nothing", x.addField(0, 3, true), 1);
    }

    private static void promise3Own() {
        QueryGateway x = twoTypes();
        Check.same("3 first", x.own(3, 1, 1, true), false);
        Check.same("3 again", x.own(3, 1, 1, true), true);
        Check.same("3 no more", x.own(3, 1, 1, false), true);
        Check.same("3 it did not", x.own(3, 1, 1, false), false);
        Check.same("3 the other service stays", x.own(1, 1, 1, true), true);
        Check.same("3 the other field stays", x.own(1, 1, 0, true), true);
        Check.throwsExactly(ARGUMENT, "3 service 4", () -> flag(x.own(4, 0, 0, true)));
        Check.throwsExactly(ARGUMENT, "3 service -1", () -> flag(x.own(-1, 0, 0, true)));
        Check.throwsExactly(ARGUMENT, "3 type 4", () -> flag(x.own(0, 4, 0, true)));
        Check.throwsExactly(ARGUMENT, "3 type -1", () -> flag(x.own(0, -1, 9, true)));
        Check.throwsExactly(INDEX, "3 field 3", () -> flag(x.own(0, 0, 3, true)));
        Check.throwsExactly(INDEX, "3 field -1", () -> flag(x.own(0, 1, -1, true)));
        Check.throwsExactly(INDEX, "3 field high", () -> flag(x.own(0, 0, HIGH, true)));
        x.node(-1, 0);
        Check.same("3 before the change", x.takenFrom(0), 0);
        x.own(2, 0, 0, true);
        x.own(0, 0, 0, false);
        Check.same("3 the plan follows", x.takenFrom(0), 2);
        x.own(2, 0, 0, false);
        Check.throwsExactly(STATE, "3 no plan is left", () -> x.hops());
    }

    private static void promise4Set() {
        QueryGateway x = twoTypes();
        Check.same("4 none before", x.set(0, 0, 0, 0), -1);
        Check.same("4 plain", x.set(0, 0, 0, 99), 0);
        Check.same("4 to none", x.set(0, 0, 0, -1), 99);
        Check.same("4 from none", x.set(0, 0, 0, 5), -1);
        Check.same("4 other key", x.set(0, 19, 0, 6), -1);
        Check.same("4 other field", x.set(0, 0, 2, 7), -1);
        Check.same("4 other type", x.set(1, 0, 0, 8), -1);
        Check.same("4 kept", x.set(0, 0, 0, 5), 5);
        Check.same("4 leading", x.set(0, 3, 1, 19), -1);
        Check.throwsExactly(ARGUMENT, "4 leading 20", () -> x.set(0, 3, 1, 20));
        Check.throwsExactly(ARGUMENT, "4 leading -2", () -> x.set(0, 3, 1, -2));
        Check.throwsExactly(ARGUMENT, "4 plain 100", () -> x.set(0, 3, 0, 100));
        Check.throwsExactly(ARGUMENT, "4 plain -2", () -> x.set(0, 3, 0, -2));
        Check.throwsExactly(ARGUMENT, "4 plain low", () -> x.set(0, 3, 0, LOW));
        Check.throwsExactly(ARGUMENT, "4 key 20", () -> x.set(0, 20, 0, 1));
        Check.throwsExactly(ARGUMENT, "4 key -1", () -> x.set(0, -1, 9, 1));
        Check.throwsExactly(ARGUMENT, "4 type 4", () -> x.set(4, 0, 0, 1));
        Check.throwsExactly(ARGUMENT, "4 type -1", () -> x.set(-1, 0, 0, 1));
        Check.throwsExactly(INDEX, "4 no field", () -> x.set(0, 0, 3, 1));
        Check.throwsExactly(INDEX, "4 no field, value not asked", () -> x.set(0, 0, 3, 1000));
        Check.throwsExactly(INDEX, "4 field -1", () -> x.set(1, 0, -1, LOW));
        Check.same("4 a throw changes nothing", x.set(0, 3, 1, 0), 19);
    }

    private static void promise5Fail() {
        QueryGateway x = fullQuery();
        Check.same("5 first", x.fail(0, true), false);
        Check.same("5 again", x.fail(0, true), true);
        Check.same("5 the other", x.fail(3, true), false);
        Check.same("5 all is missing", x.isMissing(0), true);
        Check.same("5 the plan stays", x.takenFrom(0), 0);
        Check.same("5 works again", x.fail(0, false), true);
        Check.same("5 it worked", x.fail(0, false), false);
        Check.same("5 the other stays", x.fail(3, false), true);
        Check.same("5 all is back", x.value(0, 4), 70);
        Check.throwsExactly(ARGUMENT, "5 service 4", () -> flag(x.fail(4, true)));
        Check.throwsExactly(ARGUMENT, "5 service -1", () -> flag(x.fail(-1, true)));
        Check.throwsExactly(ARGUMENT, "5 service 32", () -> flag(x.fail(32, true)));
    }

    private static void promise6Begin() {
        QueryGateway x = fullQuery();
        Check.throwsExactly(ARGUMENT, "6 type 4", () -> x.begin(4));
        Check.throwsExactly(ARGUMENT, "6 type -1", () -> x.begin(-1));
        Check.same("6 a throw changes nothing", x.nodes(), 5);
        Check.same("6 before", x.begin(1), 5);
        Check.same("6 none", x.nodes(), 0);
        Check.same("6 no hops", x.hops(), 0);
        Check.same("6 empty before", x.begin(1), 0);
        x.node(-1, 0);
        Check.same("6 the type", x.typeOf(0), 1);
        Check.same("6 values of the type", x.value(7, 0), 60);
        Check.same("6 one before", x.begin(3), 1);
    }

    private static void promise7Node() {
        QueryGateway x = twoTypes();
        Check.same("7 first", x.node(-1, 1), 0);
        Check.same("7 below", x.node(0, 1), 1);
        Check.same("7 deeper", x.node(1, 0), 2);
        Check.same("7 back at the top", x.node(-1, 0), 3);
        Check.throwsExactly(INDEX, "7 above 4", () -> x.node(4, 0));
        Check.throwsExactly(INDEX, "7 above -2", () -> x.node(-2, 0));
        Check.throwsExactly(INDEX, "7 above low", () -> x.node(LOW, 0));
        Check.throwsExactly(INDEX, "7 field 3 at the top", () -> x.node(-1, 3));
        Check.throwsExactly(INDEX, "7 field -1 at the top", () -> x.node(-1, -1));
        Check.throwsExactly(INDEX, "7 field 2 of type 1", () -> x.node(0, 2));
        Check.throwsExactly(STATE, "7 above is plain", () -> x.node(3, 0));
        Check.throwsExactly(STATE, "7 above is plain, field not asked", () -> x.node(2, 99));
        Check.throwsExactly(STATE, "7 twice at the top", () -> x.node(-1, 0));
        Check.throwsExactly(STATE, "7 twice below", () -> x.node(0, 1));
        Check.same("7 same field elsewhere", x.node(1, 1), 4);
        Check.same("7 a throw changes nothing", x.nodes(), 5);
        x.begin(2);
        Check.throwsExactly(INDEX, "7 a type without fields", () -> x.node(-1, 0));
    }

    private static void promise7NodeLimits() {
        QueryGateway x = new QueryGateway();
        for (int field = 0; field < 8; field++) {
            x.addField(0, 0, false);
        }
        for (int field = 0; field < 4; field++) {
            Check.same("7 at the top", x.node(-1, field + 4), field);
        }
        Check.throwsExactly(STATE, "7 five at the top", () -> x.node(-1, 0));
        Check.throwsExactly(INDEX, "7 field first", () -> x.node(-1, 8));
        for (int field = 0; field < 4; field++) {
            Check.same("7 below", x.node(2, field), field + 4);
        }
        Check.throwsExactly(STATE, "7 five below", () -> x.node(2, 7));
        for (int level = 8; level < 12; level++) {
            Check.same("7 a chain", x.node(level - 1, 0), level);
        }
        Check.throwsExactly(STATE, "7 thirteen", () -> x.node(11, 0));
        Check.throwsExactly(INDEX, "7 thirteen, no field", () -> x.node(11, 8));
        Check.throwsExactly(INDEX, "7 thirteen, no node", () -> x.node(12, 0));
        Check.same("7 twelve", x.nodes(), 12);
        Check.throwsExactly(STATE, "7 a node without owner is no plan", () -> x.hops());
    }

    private static void promise8Nodes() {
        QueryGateway x = twoTypes();
        Check.same("8 none", x.nodes(), 0);
        x.node(-1, 0);
        Check.same("8 one", x.nodes(), 1);
        x.node(-1, 1);
        x.node(1, 1);
        Check.same("8 three", x.nodes(), 3);
    }

    private static void promise9TypeOf() {
        QueryGateway x = fullQuery();
        int[] due = {0, 0, 1, 1, 0};
        for (int node = 0; node < due.length; node++) {
            Check.same("9 type of " + node, x.typeOf(node), due[node]);
        }
        Check.throwsExactly(INDEX, "9 node 5", () -> x.typeOf(5));
        Check.throwsExactly(INDEX, "9 node -1", () -> x.typeOf(-1));
        Check.throwsExactly(INDEX, "9 node high", () -> x.typeOf(HIGH));
        x.addField(3, -1, true);
        x.begin(3);
        x.node(-1, 0);
        Check.same("9 without a plan", x.typeOf(0), 3);
        Check.throwsExactly(INDEX, "9 a node of the query before", () -> x.typeOf(1));
    }

    private static void promise10Hops() {
        QueryGateway x = fullQuery();
        Check.same("10 top, below 1, below 3", x.hops(), 3);
        x.own(0, 1, 1, true);
        Check.same("10 node 3 from the service above and below it", x.hops(), 2);
        x.own(0, 1, 0, true);
        Check.same("10 all from one", x.hops(), 1);
        x.own(0, 0, 0, false);
        Check.throwsExactly(STATE, "10 no plan", () -> x.hops());
        x.own(2, 0, 0, true);
        Check.same("10 field 0 from 2 at the top and below", x.hops(), 3);
        x.begin(0);
        Check.same("10 without nodes", x.hops(), 0);
    }

    private static void promise11TakenFrom() {
        QueryGateway x = fullQuery();
        int[] due = {0, 0, 1, 1, 0};
        for (int node = 0; node < due.length; node++) {
            Check.same("11 service of " + node, x.takenFrom(node), due[node]);
        }
        Check.throwsExactly(INDEX, "11 node 5", () -> x.takenFrom(5));
        Check.throwsExactly(INDEX, "11 node -1", () -> x.takenFrom(-1));
        x.own(0, 0, 2, false);
        x.node(-1, 2);
        Check.throwsExactly(STATE, "11 no plan", () -> x.takenFrom(0));
        Check.throwsExactly(INDEX, "11 no plan, no node", () -> x.takenFrom(6));
        x.own(1, 0, 0, true);
        x.own(1, 0, 1, true);
        x.own(1, 0, 2, true);
        Check.same("11 the shorter one, not the lowest", x.takenFrom(0), 1);
        Check.same("11 all from 1", x.hops(), 1);
    }

    /** Of several plans the lower service of the lower node goes first, wherever the nodes stand. */
    private static void promise11TakenFromOfSeveral() {
        QueryGateway x = new QueryGateway();
        x.addField(0, 1, false);
        x.addField(0, -1, false);
        x.addField(1, -1, false);
        x.own(1, 0, 0, true);
        x.own(2, 0, 0, true);
        x.own(2, 0, 1, true);
        x.own(1, 0, 1, true);
        x.own(3, 0, 1, true);
        x.own(2, 1, 0, true);
        x.own(3, 1, 0, true);
        x.node(-1, 0);
        Check.same("11 alone", x.takenFrom(0), 1);
        x.node(0, 0);
        Check.same("11 for the sake of the node below", x.takenFrom(0), 2);
        Check.same("11 the node below", x.takenFrom(1), 2);
        x.node(-1, 1);
        Check.same("11 for the sake of the node beside", x.takenFrom(2), 2);
        Check.same("11 one hop", x.hops(), 1);
        x.own(2, 1, 0, false);
        Check.same("11 as short, so the lowest", x.takenFrom(0), 1);
        Check.same("11 together with it", x.takenFrom(2), 1);
        Check.same("11 two hops", x.hops(), 2);
    }

    private static void promise12Used() {
        QueryGateway x = fullQuery();
        Check.same("12 services 0 and 1", x.used(), 3);
        x.own(3, 0, 0, true);
        x.own(0, 0, 0, false);
        Check.same("12 services 0, 1 and 3", x.used(), 11);
        x.fail(3, true);
        Check.same("12 a failed one is used, too", x.used(), 11);
        x.own(3, 0, 0, false);
        Check.throwsExactly(STATE, "12 no plan", () -> x.used());
        x.begin(2);
        Check.same("12 without nodes", x.used(), 0);
    }

    private static void promise13Value() {
        QueryGateway x = fullQuery();
        int[] due = {50, 7, 60, 8, 70};
        for (int node = 0; node < due.length; node++) {
            Check.same("13 value of " + node, x.value(0, node), due[node]);
        }
        Check.same("13 another key has none", x.value(1, 0), -1);
        x.set(0, 8, 0, -1);
        Check.same("13 required below is none", x.value(0, 3), -1);
        Check.same("13 what may be missing stops it", x.value(0, 1), 7);
        x.set(0, 8, 0, 70);
        x.fail(1, true);
        Check.same("13 failed", x.value(0, 2), -1);
        Check.same("13 missing for the required one below", x.value(0, 1), -1);
        Check.same("13 below a missing one", x.value(0, 4), -1);
        Check.same("13 beside it", x.value(0, 0), 50);
        x.fail(1, false);
        x.set(1, 7, 0, -1);
        Check.same("13 missing for one of two below", x.value(0, 1), -1);
        Check.same("13 has a value, but is below a missing one", x.value(0, 3), -1);
        Check.same("13 two levels below a missing one", x.value(0, 4), -1);
        x.set(1, 7, 0, 60);
        x.set(0, 0, 0, -1);
        Check.same("13 all of a missing answer", x.value(0, 2), -1);
        Check.throwsExactly(ARGUMENT, "13 key 20", () -> x.value(20, 0));
        Check.throwsExactly(ARGUMENT, "13 key -1", () -> x.value(-1, 99));
        Check.throwsExactly(INDEX, "13 node 5", () -> x.value(0, 5));
        Check.throwsExactly(INDEX, "13 node -1", () -> x.value(0, -1));
        x.own(0, 0, 0, false);
        Check.throwsExactly(STATE, "13 no plan", () -> x.value(0, 0));
        Check.throwsExactly(INDEX, "13 no plan, no node", () -> x.value(0, 5));
        Check.throwsExactly(ARGUMENT, "13 no plan, no key", () -> x.value(HIGH, 0));
    }

    private static void promise14IsMissing() {
        QueryGateway x = fullQuery();
        Check.same("14 there", x.isMissing(0), false);
        Check.same("14 required is none", x.isMissing(1), true);
        x.set(0, 19, 0, 0);
        Check.same("14 zero is a value", x.isMissing(19), false);
        x.set(0, 0, 1, -1);
        Check.same("14 the other may be missing", x.isMissing(0), false);
        x.fail(0, true);
        Check.same("14 failed", x.isMissing(0), true);
        Check.throwsExactly(ARGUMENT, "14 key 20", () -> flag(x.isMissing(20)));
        Check.throwsExactly(ARGUMENT, "14 key -1", () -> flag(x.isMissing(-1)));
        x.own(0, 0, 0, false);
        Check.throwsExactly(STATE, "14 no plan", () -> flag(x.isMissing(0)));
        Check.throwsExactly(ARGUMENT, "14 no plan, no key", () -> flag(x.isMissing(20)));
        x.begin(0);
        Check.same("14 without nodes", x.isMissing(5), false);
        missingClimbsThroughRequired();
    }

    private static void missingClimbsThroughRequired() {
        QueryGateway x = new QueryGateway();
        x.addField(0, 0, true);
        x.own(0, 0, 0, true);
        x.node(-1, 0);
        x.node(0, 0);
        x.node(1, 0);
        x.set(0, 0, 0, 1);
        x.set(0, 1, 0, 2);
        Check.same("14 the third is none", x.isMissing(0), true);
        x.set(0, 2, 0, 0);
        Check.same("14 all three are there", x.isMissing(0), false);
    }

    private static void promise15Faults() {
        QueryGateway x = fullQuery();
        Check.same("15 none", x.faults(0), 0);
        Check.same("15 two at the top, nothing below", x.faults(1), 2);
        x.set(0, 8, 0, -1);
        Check.same("15 the lowest alone", x.faults(0), 1);
        x.set(1, 7, 0, -1);
        Check.same("15 below a missing one whose entity is there", x.faults(0), 2);
        x.set(0, 0, 0, -1);
        Check.same("15 in a missing answer", x.faults(0), 3);
        x.fail(1, true);
        Check.same("15 failed", x.faults(0), 3);
        x.fail(0, true);
        Check.same("15 nothing is there", x.faults(0), 2);
        Check.throwsExactly(ARGUMENT, "15 key 20", () -> x.faults(20));
        Check.throwsExactly(ARGUMENT, "15 key -1", () -> x.faults(-1));
        x.own(0, 0, 0, false);
        Check.throwsExactly(STATE, "15 no plan", () -> x.faults(0));
        Check.throwsExactly(ARGUMENT, "15 no plan, no key", () -> x.faults(LOW));
    }

    private static void promise16Loaded() {
        QueryGateway x = twoTypes();
        x.node(-1, 1);
        x.set(0, 0, 1, 7);
        x.set(0, 1, 1, 7);
        x.set(0, 2, 1, 0);
        x.set(0, 19, 1, 19);
        Check.same("16 all", x.loaded(0, 0, 19), 3);
        Check.same("16 one of two equal", x.loaded(0, 0, 1), 1);
        Check.same("16 one key", x.loaded(0, 2, 2), 1);
        Check.same("16 the last key", x.loaded(0, 19, 19), 1);
        Check.same("16 none", x.loaded(0, 3, 18), 0);
        x.set(0, 10, 1, 7);
        Check.same("16 three equal", x.loaded(0, 0, 18), 2);
        x.node(0, 0);
        Check.same("16 missing for the required one below", x.loaded(0, 0, 19), 0);
        x.set(1, 7, 0, 5);
        Check.same("16 one is complete", x.loaded(0, 0, 19), 1);
        Check.throwsExactly(ARGUMENT, "16 first -1", () -> x.loaded(0, -1, 3));
        Check.throwsExactly(ARGUMENT, "16 last 20", () -> x.loaded(0, 3, 20));
        Check.throwsExactly(ARGUMENT, "16 last below first", () -> x.loaded(9, 4, 3));
        Check.throwsExactly(INDEX, "16 node 2", () -> x.loaded(2, 0, 19));
        Check.throwsExactly(INDEX, "16 node -1", () -> x.loaded(-1, 0, 19));
        Check.throwsExactly(STATE, "16 plain", () -> x.loaded(1, 0, 19));
        Check.throwsExactly(ARGUMENT, "16 plain, first 20", () -> x.loaded(1, 20, 20));
        x.fail(0, true);
        Check.same("16 failed", x.loaded(0, 0, 19), 0);
        x.own(0, 0, 1, false);
        Check.throwsExactly(STATE, "16 no plan", () -> x.loaded(0, 0, 19));
        Check.throwsExactly(INDEX, "16 no plan, no node", () -> x.loaded(2, 0, 19));
    }

    private static void promise17Harmed() {
        QueryGateway x = fullQuery();
        x.set(0, 3, 0, 1);
        x.set(0, 4, 0, 2);
        Check.same("17 nothing failed", x.harmed(), 0);
        x.fail(2, true);
        Check.same("17 a service that is not used", x.harmed(), 0);
        x.fail(1, true);
        Check.same("17 the node below of the key 0", x.harmed(), 1);
        x.fail(0, true);
        Check.same("17 the answers of 0, 3, 4 and 8", x.harmed(), 4);
        x.own(0, 0, 0, false);
        Check.throwsExactly(STATE, "17 no plan", () -> x.harmed());
        x.begin(0);
        Check.same("17 without nodes", x.harmed(), 0);
        x.node(-1, 2);
        Check.same("17 none stays none", x.harmed(), 0);
        x.set(0, 5, 2, 0);
        Check.same("17 a value of zero", x.harmed(), 1);
    }

    private static void promise18Least() {
        QueryGateway x = twoTypes();
        x.node(-1, 0);
        x.node(-1, 2);
        Check.throwsExactly(NO_SUCH, "18 all are missing", () -> x.least(0));
        x.set(0, 19, 0, 9);
        Check.same("18 the only one", x.least(0), 19);
        x.set(0, 4, 0, 0);
        x.set(0, 6, 0, 0);
        Check.same("18 the lowest of several", x.least(0), 4);
        Check.throwsExactly(NO_SUCH, "18 the node is missing", () -> x.least(1));
        x.set(0, 0, 2, 1);
        Check.throwsExactly(NO_SUCH, "18 its answer is missing", () -> x.least(1));
        x.set(0, 6, 2, 99);
        Check.same("18 of those not missing", x.least(1), 6);
        Check.throwsExactly(INDEX, "18 node 2", () -> x.least(2));
        Check.throwsExactly(INDEX, "18 node -1", () -> x.least(-1));
        x.fail(0, true);
        Check.throwsExactly(NO_SUCH, "18 failed", () -> x.least(0));
        x.own(0, 0, 0, false);
        Check.throwsExactly(STATE, "18 no plan", () -> x.least(0));
        Check.throwsExactly(INDEX, "18 no plan, no node", () -> x.least(2));
    }
}
