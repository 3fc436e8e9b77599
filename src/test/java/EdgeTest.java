import java.util.NoSuchElementException;
import java.util.function.LongSupplier;

/** The boundary cases that the sentences of the document name, one after the other; PromiseTest has the rest. */
public final class EdgeTest {
    private static final Class<IllegalArgumentException> ARGUMENT = IllegalArgumentException.class;
    private static final Class<IllegalStateException> STATE = IllegalStateException.class;
    private static final Class<IndexOutOfBoundsException> INDEX = IndexOutOfBoundsException.class;
    private static final Class<NoSuchElementException> NO_SUCH = NoSuchElementException.class;
    private static final int LOW = Integer.MIN_VALUE;
    private static final int HIGH = Integer.MAX_VALUE;
    /** Just outside and far outside, and what a shift or a product would wrap round to a number inside. */
    private static final int[] NO_SERVICE = {-1, 4, 5, 31, 32, 33, 64, -32, LOW, LOW + 1, HIGH};
    private static final int[] NO_TYPE = {-1, 4, 5, 32, 1 << 29, 1 << 30, LOW, HIGH};
    private static final int[] NO_KEY = {-1, 20, 21, 32, 64, LOW, HIGH};

    public static void main(String[] args) {
        termsValuesAreNoneAtFirst();
        termsValuesAreKeptApart();
        termsRefusedCallsChangeNothing();
        termsTheLastOf512Calls();
        promise1EmptyQuery();
        promise2EightFieldsInEachType();
        promise2WrongInputs();
        promise3EachServiceAndType();
        promise3WrongInputs();
        promise4ValuesOfEachKind();
        promise4WrongInputs();
        promise5EachService();
        promise5StaysThroughBegin();
        promise6FullQuery();
        promise6LeavesAllElse();
        promise7FourAtEachPlace();
        promise7TwelveNodes();
        promise7FirstException();
        promise7FieldsOfTheRightType();
        promise8AfterRefusedCalls();
        promise9EachType();
        promise10EachNodeAHop();
        promise10SameServiceInTwoPlaces();
        promise10NoPlan();
        promise11LowerNodeFirst();
        promise11FewestHopsFirst();
        promise11SameFieldFromTwoServices();
        promise12Sets();
        promise13LeastAndGreatestValues();
        promise13EntityThatLeadsToItself();
        promise13NearestPartThatMayBeMissing();
        promise13FailureAboveAndBelow();
        promise13FirstException();
        promise14TopOnly();
        promise14FirstException();
        promise15Places();
        promise15FirstException();
        promise16FromFirstToLast();
        promise16FirstException();
        promise17NoneToAll();
        promise17ByTheNodesBelow();
        promise18LeastOfAll();
        promise18FirstException();
        Check.end();
    }

    private static int flag(boolean answer) {
        return answer ? 1 : 0;
    }

    private static void argument(String what, LongSupplier call) {
        Check.throwsExactly(ARGUMENT, what, call);
    }

    private static void index(String what, LongSupplier call) {
        Check.throwsExactly(INDEX, what, call);
    }

    private static void state(String what, LongSupplier call) {
        Check.throwsExactly(STATE, what, call);
    }

    /** Lets a field of a type belong to the services whose digits stand in the text, and to no other. */
    private static void owners(QueryGateway x, int type, int field, String services) {
        for (int service = 0; service < 4; service++) {
            x.own(service, type, field, services.indexOf('0' + service) >= 0);
        }
    }

    /** One type with a plain field 0 of service 0, which stands at the top. */
    private static QueryGateway onePlain(boolean required) {
        QueryGateway x = new QueryGateway();
        x.addField(0, -1, required);
        x.own(0, 0, 0, true);
        x.node(-1, 0);
        return x;
    }

    /**
     * Type 0: 0 leads to 1; type 1: 0 leads to 2; type 2: 0 plain; the nodes 0, 1, 2 in a chain, taken from the
     * services 0, 1, 2; the entity 0 of type 0 leads to 1, which leads to 2, which has the value 3.
     */
    private static QueryGateway chain(boolean first, boolean second, boolean third) {
        QueryGateway x = new QueryGateway();
        x.addField(0, 1, first);
        x.addField(1, 2, second);
        x.addField(2, -1, third);
        for (int type = 0; type < 3; type++) {
            x.own(type, type, 0, true);
            x.node(type - 1, 0);
            x.set(type, type, 0, type + 1);
        }
        return x;
    }

    /** Eight fields in the type 0 that lead to it, all of one service; no nodes. */
    private static QueryGateway eightLeading() {
        QueryGateway x = new QueryGateway();
        for (int field = 0; field < 8; field++) {
            x.addField(0, 0, false);
            x.own(0, 0, field, true);
        }
        return x;
    }

    // ---- the terms

    private static void termsValuesAreNoneAtFirst() {
        for (int type = 0; type < 4; type++) {
            QueryGateway x = new QueryGateway();
            for (int field = 0; field < 8; field++) {
                x.addField(type, field % 2 == 0 ? -1 : type, false);
                for (int key = 0; key < 20; key++) {
                    Check.same("terms none at first", x.set(type, key, field, key), -1);
                }
            }
            Check.same("terms kept", x.set(type, 19, 7, -1), 19);
            Check.same("terms kept", x.set(type, 0, 0, -1), 0);
        }
    }

    private static void termsValuesAreKeptApart() {
        QueryGateway x = new QueryGateway();
        for (int type = 0; type < 4; type++) {
            x.addField(type, -1, false);
            x.addField(type, -1, false);
        }
        for (int place = 0; place < 160; place++) {
            Check.same("terms not set before", x.set(place / 40, place / 2 % 20, place % 2, place % 97), -1);
        }
        for (int place = 0; place < 160; place++) {
            Check.same("terms set before", x.set(place / 40, place / 2 % 20, place % 2, -1), place % 97);
        }
    }

    /** All that can be asked of the query, as one text. */
    private static String all(QueryGateway x) {
        StringBuilder text = new StringBuilder();
        text.append(x.nodes()).append(' ').append(Check.outcome(x::hops)).append(' ').append(Check.outcome(x::used));
        text.append(' ').append(Check.outcome(x::harmed));
        for (int node = 0; node < x.nodes(); node++) {
            int of = node;
            text.append(' ').append(x.typeOf(of)).append(' ').append(Check.outcome(() -> x.takenFrom(of)));
            text.append(' ').append(Check.outcome(() -> x.least(of)));
            text.append(' ').append(Check.outcome(() -> x.loaded(of, 0, 19)));
            text.append(' ').append(Check.outcome(() -> x.value(0, of)));
        }
        for (int key = 0; key < 20; key++) {
            int of = key;
            text.append(' ').append(Check.outcome(() -> flag(x.isMissing(of))));
            text.append(' ').append(Check.outcome(() -> x.faults(of)));
        }
        return text.toString();
    }

    private static void termsRefusedCallsChangeNothing() {
        QueryGateway x = chain(false, true, true);
        x.addField(0, -1, true);
        x.own(3, 0, 1, true);
        x.node(-1, 1);
        x.set(0, 0, 1, 44);
        x.fail(1, true);
        String before = all(x);
        for (int wrong : NO_TYPE) {
            argument("terms addField", () -> x.addField(wrong, -1, true));
            argument("terms own", () -> flag(x.own(0, wrong, 0, true)));
            argument("terms set", () -> x.set(wrong, 0, 0, 1));
            argument("terms begin", () -> x.begin(wrong));
            index("terms node above", () -> x.node(wrong == -1 ? -2 : wrong, 0));
            index("terms node field", () -> x.node(-1, wrong));
        }
        for (int wrong : NO_SERVICE) {
            argument("terms fail", () -> flag(x.fail(wrong, true)));
            argument("terms fail no more", () -> flag(x.fail(wrong, false)));
            argument("terms own", () -> flag(x.own(wrong, 0, 0, true)));
            argument("terms own no more", () -> flag(x.own(wrong, 0, 0, false)));
        }
        index("terms own a field that is not there", () -> flag(x.own(0, 0, 2, true)));
        argument("terms set a key for a leading field", () -> x.set(0, 0, 0, 20));
        argument("terms set a plain field", () -> x.set(0, 0, 1, 100));
        state("terms node twice", () -> x.node(-1, 1));
        state("terms node below a plain one", () -> x.node(3, 0));
        Check.same("terms all as before", all(x), before);
        Check.same("terms the fields as before", x.addField(0, -1, true), 2);
        Check.same("terms the new field belongs to nobody", x.own(0, 0, 2, false), false);
        Check.same("terms the value as before", x.set(0, 0, 1, 44), 44);
    }

    private static void termsTheLastOf512Calls() {
        QueryGateway x = onePlain(true);
        for (int call = 3; call < 508; call++) {
            x.set(0, call % 20, 0, call % 100);
        }
        Check.same("terms call 509", x.value(7, 0), 507 % 100);
        Check.same("terms calls 510 and 511", x.node(-1, x.addField(0, -1, false)), 1);
        state("terms call 512", () -> x.hops());
    }

    // ---- types, fields, services

    private static void promise1EmptyQuery() {
        QueryGateway x = new QueryGateway();
        for (int service = 0; service < 4; service++) {
            Check.same("1 no service has failed", x.fail(service, true), false);
        }
        Check.same("1 no hops", x.hops(), 0);
        Check.same("1 no service", x.used(), 0);
        Check.same("1 no key", x.harmed(), 0);
        for (int key = 0; key < 20; key++) {
            Check.same("1 not missing", x.isMissing(key), false);
            Check.same("1 no faults", x.faults(key), 0);
        }
        index("1 typeOf", () -> x.typeOf(0));
        index("1 takenFrom", () -> x.takenFrom(0));
        index("1 value", () -> x.value(0, 0));
        index("1 loaded", () -> x.loaded(0, 0, 19));
        index("1 least", () -> x.least(0));
        index("1 no node above", () -> x.node(0, 0));
        index("1 no field at the top", () -> x.node(-1, 0));
        Check.same("1 no node", x.begin(0), 0);
    }

    private static void promise2EightFieldsInEachType() {
        QueryGateway x = new QueryGateway();
        for (int type = 3; type >= 0; type--) {
            for (int field = 0; field < 8; field++) {
                Check.same("2 number", x.addField(type, (field + 3) % 5 - 1, field > 3), field);
            }
            int full = type;
            state("2 the ninth", () -> x.addField(full, -1, true));
            state("2 the ninth again", () -> x.addField(full, 0, false));
            argument("2 the ninth with a wrong type to lead to", () -> x.addField(full, -2, true));
        }
        for (int type = 0; type < 4; type++) {
            int full = type;
            state("2 all are full", () -> x.addField(full, 3, true));
            Check.same("2 the eighth is there", x.own(0, type, 7, true), false);
            index("2 the ninth isn't", () -> flag(x.own(0, full, 8, true)));
        }
    }

    private static void promise2WrongInputs() {
        QueryGateway x = new QueryGateway();
        for (int wrong : NO_TYPE) {
            argument("2 type " + wrong, () -> x.addField(wrong, -1, true));
            argument("2 type and leads " + wrong, () -> x.addField(wrong, wrong, true));
            if (wrong != -1) {
                argument("2 leads " + wrong, () -> x.addField(0, wrong, false));
            }
        }
        argument("2 leads -2", () -> x.addField(0, -2, true));
        Check.same("2 none was added", x.addField(0, 3, true), 0);
        Check.same("2 the greatest type", x.addField(3, 0, true), 0);
    }

    private static void promise3EachServiceAndType() {
        QueryGateway x = new QueryGateway();
        for (int place = 0; place < 32; place++) {
            x.addField(place / 8, -1, false);
        }
        for (int type = 0; type < 4; type++) {
            for (int service = 0; service < 4; service++) {
                Check.same("3 did not", x.own(service, type, 7, true), false);
                Check.same("3 did", x.own(service, type, 7, true), true);
                Check.same("3 the field beside", x.own(service, type, 6, false), false);
                Check.same("3 the first field of the next type", x.own(service, (type + 1) % 4, 0, false), false);
            }
        }
        for (int place = 0; place < 16; place++) {
            Check.same("3 still did", x.own(place / 4, place % 4, 7, false), true);
            Check.same("3 did not any more", x.own(place / 4, place % 4, 7, false), false);
        }
    }

    private static void promise3WrongInputs() {
        QueryGateway x = onePlain(true);
        for (int wrong : NO_SERVICE) {
            argument("3 service " + wrong, () -> flag(x.own(wrong, 0, 0, true)));
            argument("3 service " + wrong + ", no field", () -> flag(x.own(wrong, 0, 9, true)));
        }
        for (int wrong : NO_TYPE) {
            argument("3 type " + wrong, () -> flag(x.own(0, wrong, 0, true)));
            argument("3 type " + wrong + ", no field", () -> flag(x.own(3, wrong, -1, true)));
        }
        for (int wrong : new int[] {-1, 1, 7, 8, 32, 1 << 29, LOW, HIGH}) {
            index("3 field " + wrong, () -> flag(x.own(0, 0, wrong, true)));
            index("3 field " + wrong + " of an empty type", () -> flag(x.own(3, 3, wrong, false)));
        }
        Check.same("3 a field is there once it is added", x.own(0, 0, x.addField(0, 0, true), true), false);
    }

    private static void promise4ValuesOfEachKind() {
        QueryGateway x = new QueryGateway();
        x.addField(3, -1, true);
        x.addField(3, 3, false);
        for (int key = 0; key < 20; key += 19) {
            Check.same("4 plain least", x.set(3, key, 0, 0), -1);
            Check.same("4 plain above the keys", x.set(3, key, 0, 20), 0);
            Check.same("4 plain greatest", x.set(3, key, 0, 99), 20);
            Check.same("4 plain none", x.set(3, key, 0, -1), 99);
            Check.same("4 none again", x.set(3, key, 0, -1), -1);
            Check.same("4 leading least", x.set(3, key, 1, 0), -1);
            Check.same("4 leading greatest", x.set(3, key, 1, 19), 0);
            Check.same("4 leading none", x.set(3, key, 1, -1), 19);
            Check.same("4 leading none again", x.set(3, key, 1, 5), -1);
        }
    }

    private static void promise4WrongInputs() {
        QueryGateway x = new QueryGateway();
        x.addField(0, -1, true);
        x.addField(0, 0, true);
        x.set(0, 3, 0, 42);
        x.set(0, 3, 1, 4);
        for (int wrong : NO_TYPE) {
            argument("4 type " + wrong, () -> x.set(wrong, 0, 0, 0));
            argument("4 type " + wrong + ", no field", () -> x.set(wrong, 0, 9, 0));
        }
        for (int wrong : NO_KEY) {
            argument("4 key " + wrong, () -> x.set(0, wrong, 0, 0));
            argument("4 key " + wrong + ", no field", () -> x.set(0, wrong, 2, 0));
        }
        for (int wrong : new int[] {-2, 100, 101, LOW, HIGH}) {
            argument("4 plain " + wrong, () -> x.set(0, 3, 0, wrong));
            index("4 no field, " + wrong, () -> x.set(0, 3, 2, wrong));
        }
        for (int wrong : new int[] {-2, 20, 21, 99, 100, LOW, HIGH}) {
            argument("4 leading " + wrong, () -> x.set(0, 3, 1, wrong));
        }
        for (int wrong : new int[] {-1, 2, 8, 1 << 29, LOW, HIGH}) {
            index("4 field " + wrong, () -> x.set(0, 3, wrong, 0));
            index("4 field " + wrong + " of an empty type", () -> x.set(1, 3, wrong, 100));
        }
        Check.same("4 plain as before", x.set(0, 3, 0, 42), 42);
        Check.same("4 leading as before", x.set(0, 3, 1, 4), 4);
    }

    private static void promise5EachService() {
        QueryGateway x = new QueryGateway();
        for (int service = 0; service < 4; service++) {
            Check.same("5 had not", x.fail(service, true), false);
            Check.same("5 had", x.fail(service, true), true);
        }
        for (int wrong : NO_SERVICE) {
            argument("5 service " + wrong, () -> flag(x.fail(wrong, false)));
        }
        for (int service = 3; service >= 0; service--) {
            Check.same("5 still had", x.fail(service, false), true);
            Check.same("5 had not any more", x.fail(service, false), false);
        }
    }

    private static void promise5StaysThroughBegin() {
        QueryGateway x = onePlain(false);
        x.set(0, 0, 0, 1);
        x.fail(0, true);
        x.begin(0);
        x.node(-1, 0);
        Check.same("5 still failed", x.value(0, 0), -1);
        Check.same("5 the plan doesn't ask", x.takenFrom(0), 0);
        x.own(3, 0, 0, true);
        Check.same("5 nor look for another", x.takenFrom(0), 0);
        Check.same("5 works again", x.fail(0, false), true);
        Check.same("5 the value is there again", x.value(0, 0), 1);
    }

    // ---- the query

    private static void promise6FullQuery() {
        QueryGateway x = eightLeading();
        x.node(-1, 0);
        for (int node = 1; node < 12; node++) {
            x.node(node - 1, 0);
        }
        Check.same("6 twelve", x.begin(0), 12);
        Check.same("6 none is left", x.nodes(), 0);
        for (int wrong = -1; wrong < 12; wrong++) {
            int gone = wrong;
            index("6 typeOf", () -> x.typeOf(gone));
            index("6 takenFrom", () -> x.takenFrom(gone));
            index("6 value", () -> x.value(0, gone));
            index("6 loaded", () -> x.loaded(gone, 0, 19));
            index("6 least", () -> x.least(gone));
            if (gone >= 0) {
                index("6 node", () -> x.node(gone, 0));
            }
        }
        for (int node = 0; node < 12; node++) {
            Check.same("6 twelve again", x.node(node - 1, 0), node);
        }
        for (int wrong : NO_TYPE) {
            argument("6 type " + wrong, () -> x.begin(wrong));
        }
        Check.same("6 and twelve again", x.begin(3), 12);
    }

    private static void promise6LeavesAllElse() {
        QueryGateway x = chain(true, true, true);
        Check.same("6 three", x.begin(2), 3);
        Check.same("6 the field", x.node(-1, 0), 0);
        Check.same("6 its service", x.takenFrom(0), 2);
        Check.same("6 its value", x.value(2, 0), 3);
        argument("6 a refused call", () -> x.begin(4));
        Check.same("6 leaves the node", x.nodes(), 1);
        Check.same("6 and its type", x.typeOf(0), 2);
        x.begin(2);
        Check.same("6 the same type again", x.nodes(), 0);
        Check.same("6 the plan is an empty one", x.used(), 0);
    }

    private static void promise7FourAtEachPlace() {
        QueryGateway x = eightLeading();
        for (int node = 0; node < 12; node++) {
            int place = node < 4 ? -1 : node < 8 ? 0 : 3;
            int field = node % 4;
            Check.same("7 one of four", x.node(place, field), node);
            if (field == 3) {
                state("7 the fifth", () -> x.node(place, 4));
                state("7 the fifth, twice the same field", () -> x.node(place, 0));
                index("7 the fifth, no field", () -> x.node(place, 8));
            } else {
                state("7 twice the same field", () -> x.node(place, field));
            }
        }
        Check.same("7 all of one service", x.hops(), 1);
    }

    private static int[] notANode(int nodes) {
        return new int[] {-2, nodes, nodes + 1, 32, LOW, HIGH};
    }

    private static void promise7TwelveNodes() {
        QueryGateway x = eightLeading();
        x.addField(1, -1, false);
        for (int node = 0; node < 12; node++) {
            for (int wrong : notANode(node)) {
                index("7 above " + wrong, () -> x.node(wrong, 0));
            }
            Check.same("7 below the last one", x.node(node - 1, 7), node);
        }
        for (int above = -1; above < 12; above++) {
            int place = above;
            state("7 the thirteenth", () -> x.node(place, 0));
            index("7 the thirteenth, no field", () -> x.node(place, 8));
        }
        for (int wrong : notANode(12)) {
            index("7 the thirteenth, above " + wrong, () -> x.node(wrong, 0));
        }
        Check.same("7 twelve", x.nodes(), 12);
    }

    private static void promise7FirstException() {
        QueryGateway x = new QueryGateway();
        x.addField(0, -1, true);
        x.addField(0, 1, true);
        index("7 no node, no field", () -> x.node(0, 9));
        x.node(-1, 0);
        x.node(-1, 1);
        for (int field : new int[] {-1, 0, 1, 2, LOW, HIGH}) {
            state("7 above is plain, field " + field, () -> x.node(0, field));
            index("7 leads to a type without fields, field " + field, () -> x.node(1, field));
        }
        index("7 no field at the top", () -> x.node(-1, 2));
        state("7 there at the top", () -> x.node(-1, 1));
        x.addField(1, -1, true);
        Check.same("7 a field that was added since", x.node(1, 0), 2);
        state("7 there below", () -> x.node(1, 0));
        state("7 below it is plain", () -> x.node(2, 0));
        index("7 no node before no field", () -> x.node(3, -1));
    }

    private static void promise7FieldsOfTheRightType() {
        QueryGateway x = new QueryGateway();
        x.addField(0, 3, false);
        x.addField(3, 0, false);
        x.addField(3, -1, false);
        Check.same("7 of the type of the query", x.node(-1, 0), 0);
        index("7 which has no second one", () -> x.node(-1, 1));
        Check.same("7 of the type to which the field leads", x.node(0, 1), 1);
        Check.same("7 the number that stands above, too", x.node(0, 0), 2);
        Check.same("7 back to the first type", x.node(2, 0), 3);
        index("7 which has no second one there", () -> x.node(2, 1));
        x.begin(3);
        Check.same("7 of the new type of the query", x.node(-1, 1), 0);
    }

    private static void promise8AfterRefusedCalls() {
        QueryGateway x = eightLeading();
        for (int node = 0; node < 12; node++) {
            Check.same("8 so many", x.nodes(), node);
            index("8 no field", () -> x.node(-1, 8));
            Check.same("8 no more", x.nodes(), node);
            x.node(node - 1, 0);
        }
        Check.same("8 twelve", x.nodes(), 12);
        state("8 the thirteenth", () -> x.node(0, 1));
        Check.same("8 still twelve", x.nodes(), 12);
        argument("8 no type", () -> x.begin(-1));
        Check.same("8 and still", x.nodes(), 12);
        x.begin(0);
        Check.same("8 none", x.nodes(), 0);
    }

    private static void promise9EachType() {
        QueryGateway x = new QueryGateway();
        for (int type = 0; type < 4; type++) {
            for (int field = 0; field < 8; field++) {
                x.addField(type, field == 7 ? (type + 1) % 4 : -1, false);
            }
        }
        for (int type = 0; type < 4; type++) {
            x.begin(type);
            for (int node = 0; node < 6; node++) {
                x.node(node - 1, 7);
                Check.same("9 the type", x.typeOf(node), (type + node) % 4);
            }
            x.node(-1, 0);
            Check.same("9 a plain one at the top", x.typeOf(6), type);
            x.node(0, 0);
            Check.same("9 a plain one below", x.typeOf(7), (type + 1) % 4);
            for (int wrong : new int[] {-1, 8, 9, 11, 12, LOW, HIGH}) {
                index("9 node " + wrong, () -> x.typeOf(wrong));
            }
        }
    }

    // ---- plans

    private static void promise10EachNodeAHop() {
        QueryGateway x = eightLeading();
        for (int field = 0; field < 8; field++) {
            owners(x, 0, field, Integer.toString(field % 4));
        }
        for (int node = 0; node < 12; node++) {
            x.node(node - 1, node % 4);
            Check.same("10 a hop for each of a chain", x.hops(), node + 1);
        }
        x.begin(0);
        for (int node = 0; node < 4; node++) {
            x.node(-1, node);
            Check.same("10 a hop for each at the top", x.hops(), node + 1);
        }
        for (int node = 4; node < 8; node++) {
            x.node(1, node);
            Check.same("10 a hop for each below, but the service above", x.hops(), node == 4 ? 5 : node);
        }
    }

    private static void promise10SameServiceInTwoPlaces() {
        QueryGateway x = eightLeading();
        owners(x, 0, 1, "1");
        x.node(-1, 0);
        x.node(0, 1);
        x.node(1, 0);
        x.node(1, 1);
        x.node(2, 1);
        x.node(4, 0);
        Check.same("10 a service counts anew below each node", x.hops(), 5);
        Check.same("10 though there are two of them", x.used(), 3);
        owners(x, 0, 1, "01");
        Check.same("10 one for all", x.hops(), 1);
    }

    private static void promise10NoPlan() {
        QueryGateway x = eightLeading();
        x.addField(1, -1, true);
        x.node(-1, 0);
        x.node(0, 1);
        Check.same("10 a field without a service that isn't asked for", x.hops(), 1);
        x.own(0, 0, 1, false);
        state("10 the field of the last node", () -> x.hops());
        x.own(3, 0, 1, true);
        Check.same("10 a plan again", x.hops(), 2);
        x.own(0, 0, 0, false);
        state("10 the field of the first node", () -> x.hops());
        state("10 takenFrom of the other", () -> x.takenFrom(1));
        state("10 used", () -> x.used());
        x.begin(1);
        Check.same("10 without nodes there is a plan", x.hops(), 0);
        x.node(-1, 0);
        state("10 a field that never had a service", () -> x.hops());
    }

    private static void promise11LowerNodeFirst() {
        QueryGateway x = eightLeading();
        owners(x, 0, 0, "01");
        owners(x, 0, 1, "23");
        owners(x, 0, 2, "02");
        owners(x, 0, 3, "13");
        int[] due = {0, 3, 0, 3};
        for (int node = 0; node < 4; node++) {
            x.node(-1, node);
        }
        for (int node = 0; node < 4; node++) {
            Check.same("11 0 and 3 rather than 1 and 2", x.takenFrom(node), due[node]);
        }
        x.begin(0);
        int[] fields = {1, 0, 3, 2};
        int[] other = {2, 1, 1, 2};
        for (int field : fields) {
            x.node(-1, field);
        }
        for (int node = 0; node < 4; node++) {
            Check.same("11 2 and 1 rather than 3 and 0", x.takenFrom(node), other[node]);
        }
        Check.same("11 two hops", x.hops(), 2);
    }

    private static void promise11FewestHopsFirst() {
        QueryGateway x = chain(false, false, false);
        owners(x, 0, 0, "03");
        owners(x, 1, 0, "13");
        owners(x, 2, 0, "23");
        for (int node = 0; node < 3; node++) {
            Check.same("11 the highest for the fewest hops", x.takenFrom(node), 3);
        }
        owners(x, 2, 0, "02");
        int[] two = {0, 1, 0};
        owners(x, 1, 0, "1");
        for (int node = 0; node < 3; node++) {
            Check.same("11 three hops in any case", x.takenFrom(node), two[node]);
        }
        owners(x, 1, 0, "12");
        int[] joined = {0, 2, 2};
        for (int node = 0; node < 3; node++) {
            Check.same("11 two hops from the node below", x.takenFrom(node), joined[node]);
        }
        for (int wrong : new int[] {-1, 3, 4, 12, LOW, HIGH}) {
            index("11 node " + wrong, () -> x.takenFrom(wrong));
        }
    }

    private static void promise11SameFieldFromTwoServices() {
        QueryGateway x = eightLeading();
        owners(x, 0, 0, "12");
        owners(x, 0, 1, "2");
        owners(x, 0, 2, "1");
        x.node(-1, 2);
        x.node(-1, 0);
        x.node(0, 1);
        x.node(0, 0);
        int[] due = {1, 1, 2, 1};
        for (int node = 0; node < 4; node++) {
            Check.same("11 the lowest that costs no hop", x.takenFrom(node), due[node]);
        }
        x.begin(0);
        x.node(-1, 1);
        x.node(0, 2);
        x.node(1, 0);
        x.node(0, 0);
        int[] apart = {2, 1, 1, 1};
        for (int node = 0; node < 4; node++) {
            Check.same("11 at each place for itself", x.takenFrom(node), apart[node]);
        }
        owners(x, 0, 2, "2");
        for (int node = 0; node < 4; node++) {
            Check.same("11 now all from one", x.takenFrom(node), 2);
        }
    }

    private static void promise12Sets() {
        QueryGateway x = eightLeading();
        for (int service = 0; service < 4; service++) {
            owners(x, 0, service, Integer.toString(service));
        }
        x.node(-1, 3);
        Check.same("12 the highest alone", x.used(), 8);
        x.node(0, 0);
        Check.same("12 the highest and the lowest", x.used(), 9);
        x.node(1, 3);
        Check.same("12 one of them twice", x.used(), 9);
        x.node(2, 1);
        x.node(2, 2);
        Check.same("12 all", x.used(), 15);
        x.own(3, 0, 0, true);
        x.own(3, 0, 1, true);
        x.own(3, 0, 2, true);
        Check.same("12 to which fields belong, but which aren't used", x.used(), 8);
        x.begin(0);
        Check.same("12 none", x.used(), 0);
    }

    // ---- answers

    private static void promise13LeastAndGreatestValues() {
        QueryGateway x = eightLeading();
        x.begin(1);
        x.addField(1, -1, true);
        x.addField(1, 0, true);
        x.own(3, 1, 0, true);
        x.own(3, 1, 1, true);
        x.node(-1, 0);
        x.node(-1, 1);
        x.set(1, 0, 0, 0);
        x.set(1, 0, 1, 19);
        x.set(1, 19, 0, 99);
        x.set(1, 19, 1, 0);
        x.set(1, 7, 0, 5);
        Check.same("13 plain, key 0", x.value(0, 0), 0);
        Check.same("13 plain, key 19", x.value(19, 0), 99);
        Check.same("13 leading, key 0", x.value(0, 1), 19);
        Check.same("13 leading, key 19", x.value(19, 1), 0);
        Check.same("13 has a value in a missing answer", x.value(7, 0), -1);
        x.node(1, 0);
        x.set(0, 19, 0, 1);
        x.set(0, 0, 0, 2);
        Check.same("13 below the entity 19", x.value(0, 2), 1);
        Check.same("13 below the entity 0", x.value(19, 2), 2);
    }

    private static void promise13EntityThatLeadsToItself() {
        QueryGateway x = eightLeading();
        for (int node = 0; node < 12; node++) {
            x.node(node - 1, 0);
        }
        x.set(0, 3, 0, 3);
        x.set(0, 5, 0, 6);
        x.set(0, 6, 0, 5);
        for (int node = 0; node < 12; node++) {
            Check.same("13 itself", x.value(3, node), 3);
            Check.same("13 one another", x.value(5, node), node % 2 == 0 ? 6 : 5);
            Check.same("13 none", x.value(4, node), -1);
        }
        Check.same("13 one at fault alone", x.faults(4), 1);
    }

    private static void promise13NearestPartThatMayBeMissing() {
        for (int kinds = 0; kinds < 8; kinds++) {
            boolean second = (kinds & 2) != 0;
            boolean third = (kinds & 4) != 0;
            QueryGateway x = chain((kinds & 1) != 0, second, third);
            Check.same("13 all there", x.value(0, 2), 3);
            x.set(2, 2, 0, -1);
            boolean all = kinds == 7;
            Check.same("13 none", x.value(0, 2), -1);
            Check.same("13 above it, kinds " + kinds, x.value(0, 1), third ? -1 : 2);
            Check.same("13 at the top, kinds " + kinds, x.value(0, 0), third && second ? -1 : 1);
            Check.same("14 the answer, kinds " + kinds, x.isMissing(0), all);
            Check.same("15 one at fault, kinds " + kinds, x.faults(0), 1);
        }
    }

    private static void promise13FailureAboveAndBelow() {
        for (int service = 0; service < 4; service++) {
            QueryGateway x = chain(false, false, false);
            x.fail(service, true);
            for (int node = 0; node < 3; node++) {
                Check.same("13 from the failed one down", x.value(0, node), node < service ? node + 1 : -1);
            }
            Check.same("15 the failed one alone", x.faults(0), service < 3 ? 1 : 0);
            Check.same("14 may be missing", x.isMissing(0), false);
            Check.same("17 harmed", x.harmed(), service < 3 ? 1 : 0);
        }
    }

    private static void promise13FirstException() {
        QueryGateway x = onePlain(false);
        for (int wrong : NO_KEY) {
            argument("13 key " + wrong, () -> x.value(wrong, 0));
            argument("13 key " + wrong + ", no node", () -> x.value(wrong, 1));
        }
        for (int wrong : new int[] {-1, 1, 11, 12, LOW, HIGH}) {
            index("13 node " + wrong, () -> x.value(19, wrong));
        }
        x.own(0, 0, 0, false);
        state("13 no plan, key 19", () -> x.value(19, 0));
        index("13 no plan, no node", () -> x.value(19, 1));
        argument("13 no plan, no node, no key", () -> x.value(20, -1));
    }

    private static void promise14TopOnly() {
        QueryGateway x = chain(true, false, true);
        Check.same("14 all there", x.isMissing(0), false);
        x.fail(2, true);
        Check.same("14 the node 1 may be missing", x.isMissing(0), false);
        x.fail(1, true);
        Check.same("14 still", x.isMissing(0), false);
        x.fail(0, true);
        Check.same("14 the top", x.isMissing(0), true);
        x.fail(0, false);
        Check.same("14 the key 19 has none", x.isMissing(19), true);
        x.set(0, 19, 0, 19);
        Check.same("14 the key 19 has one", x.isMissing(19), false);
        x.addField(0, -1, true);
        Check.same("14 a required field that isn't asked for", x.isMissing(0), false);
        x.own(0, 0, 1, true);
        x.node(-1, 1);
        Check.same("14 the second at the top", x.isMissing(0), true);
    }

    private static void promise14FirstException() {
        QueryGateway x = onePlain(true);
        for (int wrong : NO_KEY) {
            argument("14 key " + wrong, () -> flag(x.isMissing(wrong)));
        }
        x.own(0, 0, 0, false);
        state("14 no plan, key 0", () -> flag(x.isMissing(0)));
        state("14 no plan, key 19", () -> flag(x.isMissing(19)));
        for (int wrong : NO_KEY) {
            argument("14 no plan, key " + wrong, () -> flag(x.isMissing(wrong)));
        }
    }

    private static void promise15Places() {
        QueryGateway x = eightLeading();
        for (int node = 0; node < 12; node++) {
            x.node(node < 4 ? -1 : node < 8 ? 0 : 3, node % 4);
        }
        Check.same("15 four at the top", x.faults(19), 4);
        x.set(0, 19, 0, 18);
        Check.same("15 three at the top, four below", x.faults(19), 7);
        x.set(0, 19, 3, 17);
        Check.same("15 two at the top, eight below", x.faults(19), 10);
        x.set(0, 19, 1, 0);
        x.set(0, 19, 2, 0);
        Check.same("15 eight below", x.faults(19), 8);
        for (int field = 0; field < 4; field++) {
            x.set(0, 18, field, 0);
            x.set(0, 17, field, 0);
        }
        Check.same("15 none", x.faults(19), 0);
        Check.same("15 the key 0 for itself", x.faults(0), 4);
        x.fail(0, true);
        Check.same("15 the four whose entity is there", x.faults(19), 4);
        x.begin(0);
        Check.same("15 without nodes", x.faults(19), 0);
    }

    private static void promise15FirstException() {
        QueryGateway x = onePlain(true);
        for (int wrong : NO_KEY) {
            argument("15 key " + wrong, () -> x.faults(wrong));
        }
        x.own(0, 0, 0, false);
        state("15 no plan", () -> x.faults(19));
        for (int wrong : NO_KEY) {
            argument("15 no plan, key " + wrong, () -> x.faults(wrong));
        }
    }

    private static void promise16FromFirstToLast() {
        QueryGateway x = eightLeading();
        x.node(-1, 0);
        for (int key = 0; key < 20; key++) {
            Check.same("16 so many", x.loaded(0, 0, 19), key);
            Check.same("16 not this one yet", x.loaded(0, key, key), 0);
            x.set(0, key, 0, 19 - key);
            Check.same("16 this one", x.loaded(0, key, key), 1);
        }
        Check.same("16 all different", x.loaded(0, 0, 19), 20);
        for (int key = 0; key < 20; key++) {
            Check.same("16 from the first", x.loaded(0, 0, key), key + 1);
            Check.same("16 to the last", x.loaded(0, key, 19), 20 - key);
        }
        for (int key = 0; key < 20; key++) {
            x.set(0, key, 0, key / 10 * 19);
        }
        Check.same("16 the two ends", x.loaded(0, 0, 19), 2);
        Check.same("16 on both sides of the change", x.loaded(0, 9, 10), 2);
        Check.same("16 before the change", x.loaded(0, 0, 9), 1);
        x.fail(0, true);
        Check.same("16 none", x.loaded(0, 0, 19), 0);
    }

    private static void promise16FirstException() {
        QueryGateway x = onePlain(true);
        x.addField(0, 0, true);
        x.node(-1, 1);
        for (int wrong : NO_KEY) {
            argument("16 first " + wrong, () -> x.loaded(1, wrong, 19));
            argument("16 last " + wrong, () -> x.loaded(1, 0, wrong));
            argument("16 both " + wrong, () -> x.loaded(2, wrong, wrong));
        }
        argument("16 last below first", () -> x.loaded(1, 19, 18));
        argument("16 last far below first", () -> x.loaded(2, 19, 0));
        argument("16 plain, last below first", () -> x.loaded(0, 1, 0));
        for (int wrong : new int[] {-1, 2, 11, 12, LOW, HIGH}) {
            index("16 node " + wrong, () -> x.loaded(wrong, 19, 19));
        }
        state("16 no plan", () -> x.loaded(1, 0, 0));
        state("16 plain and no plan", () -> x.loaded(0, 0, 0));
        x.own(0, 0, 1, true);
        state("16 plain", () -> x.loaded(0, 0, 0));
        Check.same("16 a plan", x.loaded(1, 0, 0), 0);
    }

    private static void promise17NoneToAll() {
        QueryGateway x = onePlain(true);
        x.fail(0, true);
        for (int key = 19; key >= 0; key--) {
            x.set(0, key, 0, key);
            Check.same("17 so many", x.harmed(), 20 - key);
        }
        x.own(3, 0, 0, true);
        Check.same("17 with the same plan", x.harmed(), 20);
        x.own(0, 0, 0, false);
        Check.same("17 with another plan", x.harmed(), 0);
        x.fail(3, true);
        Check.same("17 whose service fails", x.harmed(), 20);
        x.fail(3, false);
        Check.same("17 and works again", x.harmed(), 0);
        x.own(3, 0, 0, false);
        state("17 no plan", () -> x.harmed());
    }

    private static void promise17ByTheNodesBelow() {
        QueryGateway x = chain(true, true, false);
        x.set(0, 19, 0, 1);
        x.set(0, 5, 0, 5);
        x.fail(2, true);
        Check.same("17 the lowest node of two keys", x.harmed(), 2);
        x.set(2, 2, 0, -1);
        Check.same("17 it was none before", x.harmed(), 0);
        x.set(2, 2, 0, 0);
        x.set(1, 1, 0, -1);
        Check.same("17 the answers are missing in any case", x.harmed(), 0);
        x.fail(0, true);
        Check.same("17 missing before and now", x.harmed(), 0);
        x.set(1, 5, 0, 3);
        Check.same("17 missing now alone", x.harmed(), 1);
    }

    private static void promise18LeastOfAll() {
        QueryGateway x = onePlain(true);
        x.addField(0, 0, false);
        x.own(0, 0, 1, true);
        x.node(-1, 1);
        for (int key = 0; key < 20; key++) {
            x.set(0, key, 0, 99);
        }
        Check.same("18 all the greatest", x.least(0), 0);
        x.set(0, 19, 0, 98);
        Check.same("18 the last key", x.least(0), 19);
        x.set(0, 18, 0, 98);
        Check.same("18 the lowest of the last two", x.least(0), 18);
        x.set(0, 18, 0, -1);
        Check.same("18 none isn't the least", x.least(0), 19);
        Check.throwsExactly(NO_SUCH, "18 none at all", () -> x.least(1));
        x.set(0, 18, 1, 0);
        Check.throwsExactly(NO_SUCH, "18 in a missing answer alone", () -> x.least(1));
        x.set(0, 17, 1, 19);
        x.set(0, 9, 1, 18);
        Check.same("18 a leading one", x.least(1), 9);
        x.set(0, 18, 0, 99);
        Check.same("18 whose answer is there again", x.least(1), 18);
        x.node(1, 0);
        x.set(0, 0, 0, -1);
        Check.same("18 but itself is missing", x.least(1), 9);
        Check.same("18 the same below it", x.least(2), 17);
    }

    private static void promise18FirstException() {
        QueryGateway x = onePlain(true);
        Check.throwsExactly(NO_SUCH, "18 missing in all", () -> x.least(0));
        for (int wrong : new int[] {-1, 1, 11, 12, LOW, HIGH}) {
            index("18 node " + wrong, () -> x.least(wrong));
        }
        x.own(0, 0, 0, false);
        state("18 missing in all and no plan", () -> x.least(0));
        index("18 no node and no plan", () -> x.least(1));
    }
}
