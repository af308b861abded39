import java.util.ArrayList;
import java.util.HashMap;
import java.util.List;
import java.util.Map;
import java.util.Random;

/**
 * Compares the class with a second, plain program on random runs of calls. The model makes real structures
 * for everything (for finer too), and goes back to a copy of its state when a call does not go.
 */
public final class ModelTests {
    private static final int RUNS = 6000;
    private static final int CALLS = 512;
    private static final String[] NAMES = {
        "arrow", "type", "addType", "addValue", "addPart", "open", "structure", "item", "items",
        "specType", "specValue", "specPart", "include", "signature", "with", "specs",
        "match", "seal", "view", "finer", "alike",
        "bodyType", "bodyValue", "functor", "apply", "pack", "unpack", "unit", "change", "stale", "build"};
    private static final int[] ARGUMENTS = {
        2, 2, 2, 3, 2, 1, 0, 4, 1, 2, 3, 2, 1, 0, 4, 1, 2, 2, 2, 2, 2, 2, 5, 3, 2, 2, 1, 3, 2, 0, 0};

    // ---- the model

    private record Type(int kind, int from, int to) { }

    private record Item(int kind, int name, int content, int number) { }

    private record Spec(int kind, int name, int told, int to) { }

    private record BodyItem(int kind, int name, int told, int to, int from, int number) { }

    private record Body(int argument, int result, boolean isPure, List<BodyItem> items) { }

    private static final class Unit {
        int face;
        int uses;
        boolean isInlined;
        int changes;
        boolean isFresh;
        final Map<Integer, Integer> faces = new HashMap<>();
        final Map<Integer, Integer> counts = new HashMap<>();
    }

    private static final class Model {
        List<Type> types = new ArrayList<>(List.of(new Type(0, -1, -1), new Type(0, -1, -1)));
        List<List<Item>> structures = new ArrayList<>();
        final List<List<Spec>> signatures = new ArrayList<>();
        List<Item> draft = new ArrayList<>();
        List<Spec> specDraft = new ArrayList<>();
        List<BodyItem> bodyDraft = new ArrayList<>();
        final List<Body> functors = new ArrayList<>();
        final Map<String, Integer> applied = new HashMap<>();
        final List<int[]> packs = new ArrayList<>();
        final List<Unit> units = new ArrayList<>();
        boolean isLimited = true;

        // -- what has to be

        static void there(boolean is) {
            if (!is) {
                throw new IndexOutOfBoundsException();
            }
        }

        static void inRange(int value, int least, int most) {
            if (value < least || value > most) {
                throw new IllegalArgumentException();
            }
        }

        static void possible(boolean is) {
            if (!is) {
                throw new IllegalStateException();
            }
        }

        void type(int t) {
            there(t >= 0 && t < types.size());
        }

        void structure(int s) {
            there(s >= 0 && s < structures.size());
        }

        void signature(int s) {
            there(s >= 0 && s < signatures.size());
        }

        // -- types

        int make(Type type) {
            if (type.kind == 2 && types.contains(type)) {
                return types.indexOf(type);
            }
            possible(!isLimited || types.size() < 200);
            types.add(type);
            return types.size() - 1;
        }

        int makeNew() {
            return make(new Type(1, -1, -1));
        }

        int keep(List<Item> items) {
            possible(!isLimited || structures.size() < 30);
            structures.add(items);
            return structures.size() - 1;
        }

        // -- rows

        static Item find(List<Item> items, int kind, int name) {
            for (Item item : items) {
                if (item.kind == kind && item.name == name) {
                    return item;
                }
            }
            return null;
        }

        static Spec findSpec(List<Spec> specs, int kind, int name) {
            for (Spec spec : specs) {
                if (spec.kind == kind && spec.name == name) {
                    return spec;
                }
            }
            return null;
        }

        boolean put(Item item) {
            boolean isHidden = draft.removeIf(old -> old.kind == item.kind && old.name == item.name);
            draft.add(item);
            return isHidden;
        }

        int size(List<Spec> specs) {
            int size = 0;
            for (Spec spec : specs) {
                size += 1 + (spec.kind == 2 ? size(signatures.get(spec.told)) : 0);
            }
            return size;
        }

        int putSpecs(List<Spec> more) {
            for (Spec spec : more) {
                possible(findSpec(specDraft, spec.kind, spec.name) == null);
            }
            possible(size(specDraft) + size(more) <= 60);
            specDraft.addAll(more);
            return specDraft.size();
        }

        void told(int told) {
            if (told >= 0) {
                type(told);
            } else {
                there(findSpec(specDraft, 0, -1 - told) != null);
            }
        }

        void toldInBody(int told) {
            if (told >= 0) {
                type(told);
            } else {
                boolean is = false;
                for (BodyItem item : bodyDraft) {
                    is |= item.kind == 0 && item.name == -1 - told;
                }
                there(is);
            }
        }

        // -- matching

        int meant(List<Item> items, int told) {
            return told >= 0 ? told : find(items, 0, -1 - told).content;
        }

        int match(List<Item> items, List<Spec> specs) {
            for (Spec spec : specs) {
                Item item = find(items, spec.kind, spec.name);
                int reason = 0;
                if (item == null) {
                    reason = spec.kind == 0 ? 1 : spec.kind == 1 ? 3 : 5;
                } else if (spec.kind == 0) {
                    reason = spec.told != -100 && meant(items, spec.told) != item.content ? 2 : 0;
                } else if (spec.kind == 1 && spec.to == -100) {
                    reason = meant(items, spec.told) != item.content ? 4 : 0;
                } else if (spec.kind == 1) {
                    Type arrow = new Type(2, meant(items, spec.told), meant(items, spec.to));
                    reason = types.get(item.content).equals(arrow) ? 0 : 4;
                } else {
                    reason = match(structures.get(item.content), signatures.get(spec.told)) != 0 ? 6 : 0;
                }
                if (reason != 0) {
                    return 10 * reason + spec.name;
                }
            }
            return 0;
        }

        int remake(List<Item> items, List<Spec> specs, boolean isSealed) {
            List<Item> made = new ArrayList<>();
            for (Spec spec : specs) {
                Item old = items == null ? null : find(items, spec.kind, spec.name);
                int content;
                if (spec.kind == 0 && spec.told == -100) {
                    content = isSealed ? makeNew() : old.content;
                } else if (spec.kind == 2) {
                    content = remake(old == null ? null : structures.get(old.content),
                            signatures.get(spec.told), isSealed);
                } else {
                    content = meant(made, spec.told);
                    if (spec.to != -100) {
                        content = make(new Type(2, content, meant(made, spec.to)));
                    }
                }
                made.add(new Item(spec.kind, spec.name, content, old == null ? 0 : old.number));
            }
            return keep(made);
        }

        int sealed(int s, int g, boolean isSealed) {
            possible(match(structures.get(s), signatures.get(g)) == 0);
            return remake(structures.get(s), signatures.get(g), isSealed);
        }

        boolean finer(int one, int other) {
            isLimited = false;
            int made = remake(null, signatures.get(one), true);
            int misfit = match(structures.get(made), signatures.get(other));
            isLimited = true;
            return misfit == 0;
        }

        boolean alike(List<Spec> one, List<Spec> other) {
            if (one.size() != other.size()) {
                return false;
            }
            for (int i = 0; i < one.size(); i++) {
                Spec a = one.get(i);
                Spec b = other.get(i);
                boolean is = a.kind == 2 && b.kind == 2
                        ? a.name == b.name && alike(signatures.get(a.told), signatures.get(b.told))
                        : a.equals(b);
                if (!is) {
                    return false;
                }
            }
            return true;
        }

        // -- functors

        int apply(int f, int s) {
            Body body = functors.get(f);
            List<Item> argument = structures.get(s);
            possible(match(argument, signatures.get(body.argument)) == 0);
            if (body.isPure && applied.containsKey(f + " " + s)) {
                return applied.get(f + " " + s);
            }
            List<Item> made = new ArrayList<>();
            for (BodyItem item : body.items) {
                int content;
                int number = 0;
                if (item.kind == 0) {
                    content = item.from < 0 ? makeNew() : find(argument, 0, item.from).content;
                } else {
                    content = meant(made, item.told);
                    if (item.to != -100) {
                        content = make(new Type(2, content, meant(made, item.to)));
                    }
                    number = item.number + (item.from < 0 ? 0 : find(argument, 1, item.from).number);
                    number = number > 10000 ? 10000 : number < -10000 ? -10000 : number;
                }
                made.add(new Item(item.kind, item.name, content, number));
            }
            int result = keep(made);
            if (body.result >= 0) {
                result = sealed(result, body.result, true);
            }
            applied.put(f + " " + s, result);
            return result;
        }

        int with(int g, int name, int type, boolean isTaken) {
            List<Spec> made = new ArrayList<>();
            int told = -1 - name;
            for (Spec spec : signatures.get(g)) {
                boolean isIt = spec.kind == 0 && spec.name == name;
                if (!isTaken) {
                    made.add(isIt ? new Spec(0, name, type, -100) : spec);
                } else if (!isIt) {
                    made.add(spec.kind == 2 ? spec : new Spec(spec.kind, spec.name,
                            spec.told == told ? type : spec.told, spec.to == told ? type : spec.to));
                }
            }
            possible(signatures.size() < 20);
            signatures.add(made);
            return signatures.size() - 1;
        }

        int functor(int argument, int result, boolean isPure) {
            for (BodyItem item : bodyDraft) {
                possible(item.from < 0 || findSpec(signatures.get(argument), item.kind, item.from) != null);
            }
            possible(functors.size() < 8);
            functors.add(new Body(argument, result, isPure, bodyDraft));
            bodyDraft = new ArrayList<>();
            return functors.size() - 1;
        }

        // -- units

        int stale() {
            int set = 0;
            for (int u = 0; u < units.size(); u++) {
                Unit unit = units.get(u);
                boolean is = !unit.isFresh;
                for (int used : unit.faces.keySet()) {
                    Unit one = units.get(used);
                    is |= !alike(signatures.get(one.face), signatures.get(unit.faces.get(used)));
                    is |= one.isInlined && one.changes != unit.counts.get(used);
                }
                set |= is ? 1 << u : 0;
            }
            return set;
        }

        int build() {
            int built = 0;
            for (int u = 0; u < units.size(); u++) {
                if ((stale() >> u & 1) == 1) {
                    built++;
                    Unit unit = units.get(u);
                    unit.isFresh = true;
                    for (int used = 0; used < u; used++) {
                        if ((unit.uses >> used & 1) == 1) {
                            unit.faces.put(used, units.get(used).face);
                            unit.counts.put(used, units.get(used).changes);
                        }
                    }
                }
            }
            return built;
        }

        // -- the calls

        long call(String name, int[] a) {
            List<Type> typesBefore = new ArrayList<>(types);
            List<List<Item>> structuresBefore = new ArrayList<>(structures);
            boolean goes = false;
            try {
                long answer = dispatch(name, a);
                goes = !name.equals("finer");
                return answer;
            } finally {
                if (!goes) {
                    types = typesBefore;
                    structures = structuresBefore;
                }
            }
        }

        long dispatch(String name, int[] a) {
            switch (name) {
                case "arrow": type(a[0]); type(a[1]); return make(new Type(2, a[0], a[1]));
                case "type": type(a[0]); inRange(a[1], 0, 2); return part(types.get(a[0]), a[1]);
                case "addType": return addType(a[0], a[1]);
                case "addValue": type(a[1]); inRange(a[0], 0, 9); inRange(a[2], -10000, 10000);
                    return put(new Item(1, a[0], a[1], a[2])) ? 1 : 0;
                case "addPart": structure(a[1]); inRange(a[0], 0, 9);
                    return put(new Item(2, a[0], a[1], 0)) ? 1 : 0;
                case "open": structure(a[0]); return opened(structures.get(a[0]));
                case "structure": int kept = keep(draft); draft = new ArrayList<>(); return kept;
                case "item": return item(a[0], a[1], a[2], a[3]);
                case "items": structure(a[0]); return structures.get(a[0]).size();
                case "specType": if (a[1] != -100) { told(a[1]); } inRange(a[0], 0, 9);
                    return putSpecs(List.of(new Spec(0, a[0], a[1], -100)));
                case "specValue": told(a[1]); if (a[2] != -100) { told(a[2]); } inRange(a[0], 0, 9);
                    return putSpecs(List.of(new Spec(1, a[0], a[1], a[2])));
                case "specPart": signature(a[1]); inRange(a[0], 0, 9);
                    return putSpecs(List.of(new Spec(2, a[0], a[1], -100)));
                case "include": signature(a[0]); return putSpecs(signatures.get(a[0]));
                case "signature": possible(signatures.size() < 20); signatures.add(specDraft);
                    specDraft = new ArrayList<>(); return signatures.size() - 1;
                case "with": signature(a[0]); type(a[2]); Spec spec = findSpec(signatures.get(a[0]), 0, a[1]);
                    there(spec != null && spec.told == -100); return with(a[0], a[1], a[2], a[3] == 1);
                case "specs": signature(a[0]); return signatures.get(a[0]).size();
                default: return dispatchMore(name, a);
            }
        }

        long dispatchMore(String name, int[] a) {
            switch (name) {
                case "match": structure(a[0]); signature(a[1]);
                    return match(structures.get(a[0]), signatures.get(a[1]));
                case "seal": structure(a[0]); signature(a[1]); return sealed(a[0], a[1], true);
                case "view": structure(a[0]); signature(a[1]); return sealed(a[0], a[1], false);
                case "finer": signature(a[0]); signature(a[1]); return finer(a[0], a[1]) ? 1 : 0;
                case "alike": signature(a[0]); signature(a[1]);
                    return alike(signatures.get(a[0]), signatures.get(a[1])) ? 1 : 0;
                case "bodyType": inRange(a[0], 0, 9); inRange(a[1], -1, 9);
                    return putBody(new BodyItem(0, a[0], -100, -100, a[1], 0));
                case "bodyValue": toldInBody(a[1]); if (a[2] != -100) { toldInBody(a[2]); }
                    inRange(a[0], 0, 9); inRange(a[3], -1, 9); inRange(a[4], -10000, 10000);
                    return putBody(new BodyItem(1, a[0], a[1], a[2], a[3], a[4]));
                case "functor": signature(a[0]); if (a[1] != -1) { signature(a[1]); }
                    return functor(a[0], a[1], a[2] == 1);
                case "apply": there(a[0] >= 0 && a[0] < functors.size()); structure(a[1]);
                    return apply(a[0], a[1]);
                case "pack": structure(a[0]); signature(a[1]); possible(packs.size() < 10);
                    possible(match(structures.get(a[0]), signatures.get(a[1])) == 0);
                    packs.add(new int[] {a[0], a[1]}); return packs.size() - 1;
                case "unpack": there(a[0] >= 0 && a[0] < packs.size());
                    return sealed(packs.get(a[0])[0], packs.get(a[0])[1], true);
                case "unit": return unit(a[0], a[1], a[2] == 1);
                case "change": return change(a[0], a[1]);
                case "stale": return stale();
                case "build": return build();
                default: throw new AssertionError(name);
            }
        }

        static long part(Type type, int what) {
            return what == 0 ? type.kind : what == 1 ? type.from : type.to;
        }

        long addType(int name, int type) {
            if (type != -1) {
                type(type);
            }
            inRange(name, 0, 9);
            int added = type == -1 ? makeNew() : type;
            put(new Item(0, name, added, 0));
            return added;
        }

        long opened(List<Item> items) {
            int hidden = 0;
            for (Item item : items) {
                hidden += put(item) ? 1 : 0;
            }
            return hidden;
        }

        long item(int s, int kind, int name, int what) {
            structure(s);
            inRange(kind, 0, 2);
            Item item = find(structures.get(s), kind, name);
            there(item != null);
            inRange(what, 0, 2);
            return what == 0 ? item.content : what == 1 ? structures.get(s).indexOf(item) : item.number;
        }

        long putBody(BodyItem item) {
            for (BodyItem old : bodyDraft) {
                possible(old.kind != item.kind || old.name != item.name);
            }
            bodyDraft.add(item);
            return bodyDraft.size();
        }

        long unit(int face, int uses, boolean isInlined) {
            signature(face);
            for (int bit = 0; bit < 32; bit++) {
                there((uses >>> bit & 1) == 0 || bit < units.size());
            }
            possible(units.size() < 8);
            Unit unit = new Unit();
            unit.face = face;
            unit.uses = uses;
            unit.isInlined = isInlined;
            units.add(unit);
            return units.size() - 1;
        }

        long change(int u, int face) {
            there(u >= 0 && u < units.size());
            if (face != -1) {
                signature(face);
                units.get(u).face = face;
            }
            units.get(u).isFresh = false;
            return ++units.get(u).changes;
        }
    }

    // ---- the class itself

    private static long real(ModuleLoft x, String name, int[] a) {
        switch (name) {
            case "arrow": return x.arrow(a[0], a[1]);
            case "type": return x.type(a[0], a[1]);
            case "addType": return x.addType(a[0], a[1]);
            case "addValue": return x.addValue(a[0], a[1], a[2]) ? 1 : 0;
            case "addPart": return x.addPart(a[0], a[1]) ? 1 : 0;
            case "open": return x.open(a[0]);
            case "structure": return x.structure();
            case "item": return x.item(a[0], a[1], a[2], a[3]);
            case "items": return x.items(a[0]);
            case "specType": return x.specType(a[0], a[1]);
            case "specValue": return x.specValue(a[0], a[1], a[2]);
            case "specPart": return x.specPart(a[0], a[1]);
            case "include": return x.include(a[0]);
            case "signature": return x.signature();
            case "with": return x.with(a[0], a[1], a[2], a[3] == 1);
            case "specs": return x.specs(a[0]);
            case "match": return x.match(a[0], a[1]);
            case "seal": return x.seal(a[0], a[1]);
            case "view": return x.view(a[0], a[1]);
            case "finer": return x.finer(a[0], a[1]) ? 1 : 0;
            case "alike": return x.alike(a[0], a[1]) ? 1 : 0;
            case "bodyType": return x.bodyType(a[0], a[1]);
            case "bodyValue": return x.bodyValue(a[0], a[1], a[2], a[3], a[4]);
            case "functor": return x.functor(a[0], a[1], a[2] == 1);
            case "apply": return x.apply(a[0], a[1]);
            case "pack": return x.pack(a[0], a[1]);
            case "unpack": return x.unpack(a[0]);
            case "unit": return x.unit(a[0], a[1], a[2] == 1);
            case "change": return x.change(a[0], a[1]);
            case "stale": return x.stale();
            case "build": return x.build();
            default: throw new AssertionError(name);
        }
    }

    // ---- random runs

    private static final class Run {
        final Random random;
        final Model model = new Model();
        final ModuleLoft x = new ModuleLoft();
        final StringBuilder log = new StringBuilder();
        /** How wide names are chosen: few names meet more often. */
        final int names;
        /** How often, of 100, an argument is any number at all. */
        final int wild;
        final int[] weights = new int[NAMES.length];
        int calls = 0;
        boolean isRight = true;

        Run(long seed) {
            random = new Random(seed);
            names = random.nextInt(3) == 0 ? 10 : 1 + random.nextInt(4);
            wild = random.nextInt(3) == 0 ? 10 : 1;
            for (int i = 0; i < weights.length; i++) {
                weights[i] = 1 + random.nextInt(random.nextInt(4) == 0 ? 20 : 4);
            }
            // Structures and signatures run out soon, so some runs make few of them.
            if (random.nextBoolean()) {
                for (String name : List.of("seal", "view", "structure", "signature", "with", "apply", "unpack")) {
                    weights[List.of(NAMES).indexOf(name)] = 1;
                }
            }
        }

        void run() {
            while (calls < CALLS && isRight) {
                int choice = random.nextInt(100);
                if (choice < 3) {
                    specsOfStructure();
                } else if (choice < 5) {
                    specsOfSignature();
                } else if (choice < 7) {
                    bodyOfSignature();
                } else if (choice < 12) {
                    matchedCall();
                } else {
                    anyCall();
                }
            }
        }

        long call(String name, int... a) {
            if (calls >= CALLS || !isRight) {
                return Long.MIN_VALUE;
            }
            calls++;
            long due = answer(name, a, true);
            long got = answer(name, a, false);
            log.append("  ").append(name).append(java.util.Arrays.toString(a)).append(" -> ").append(got)
                    .append('\n');
            if (due != got) {
                isRight = false;
                log.append("  due is ").append(due).append('\n');
            }
            tally(name, due);
            return due;
        }

        long answer(String name, int[] a, boolean isModel) {
            try {
                return isModel ? model.call(name, a) : real(x, name, a);
            } catch (IndexOutOfBoundsException e) {
                return e.getClass() == IndexOutOfBoundsException.class ? -1000001 : -1000009;
            } catch (IllegalArgumentException e) {
                return -1000002;
            } catch (IllegalStateException e) {
                return -1000003;
            } catch (RuntimeException e) {
                return -1000004;
            }
        }

        int below(int bound) {
            return bound <= 0 ? 0 : random.nextInt(bound);
        }

        int wildly(int value) {
            if (below(100) >= wild) {
                return value;
            }
            int[] edges = {-1, -2, 10, 11, -100, -101, 200, 30, 20, 8, Integer.MAX_VALUE, Integer.MIN_VALUE,
                10001, -10001, model.types.size(), model.structures.size(), model.signatures.size()};
            return edges[below(edges.length)];
        }

        int name() {
            return wildly(below(names));
        }

        int type() {
            int count = model.types.size();
            return wildly(below(3) == 0 ? below(2) : below(2) == 0 ? count - 1 - below(Math.min(3, count)) : below(count));
        }

        int structure() {
            return wildly(below(model.structures.size()));
        }

        int signature() {
            return wildly(below(model.signatures.size()));
        }

        int told() {
            return below(2) == 0 ? type() : wildly(-1 - below(names));
        }

        int number() {
            return wildly(below(3) == 0 ? below(20001) - 10000 : below(2) == 0 ? 9990 + below(11) : below(5));
        }

        void anyCall() {
            int sum = 0;
            for (int weight : weights) {
                sum += weight;
            }
            int rest = below(sum);
            int op = 0;
            while (rest >= weights[op]) {
                rest -= weights[op];
                op++;
            }
            call(NAMES[op], arguments(NAMES[op], ARGUMENTS[op]));
        }

        int[] arguments(String name, int count) {
            switch (name) {
                case "arrow": return new int[] {type(), type()};
                case "type": return new int[] {type(), wildly(below(3))};
                case "addType": return new int[] {name(), below(2) == 0 ? -1 : type()};
                case "addValue": return new int[] {name(), type(), number()};
                case "addPart": return new int[] {name(), structure()};
                case "item": return itemArguments();
                case "specType": return new int[] {name(), below(2) == 0 ? -100 : told()};
                case "specValue": return new int[] {name(), told(), below(2) == 0 ? -100 : told()};
                case "specPart": return new int[] {name(), signature()};
                case "with": return withArguments();
                case "open": case "items": return new int[] {structure()};
                case "include": case "specs": return new int[] {signature()};
                case "match": case "seal": case "view": case "pack": return new int[] {structure(), signature()};
                case "finer": case "alike": return new int[] {signature(), signature()};
                case "bodyType": return new int[] {name(), below(2) == 0 ? -1 : name()};
                case "bodyValue": return new int[] {name(), told(), below(2) == 0 ? -100 : told(),
                    below(2) == 0 ? -1 : name(), number()};
                case "functor": return new int[] {signature(), below(2) == 0 ? -1 : signature(), below(2)};
                case "apply": return new int[] {wildly(below(model.functors.size())), structure()};
                case "unpack": return new int[] {wildly(below(model.packs.size()))};
                case "unit": return new int[] {signature(), wildly(below(1 << model.units.size())), below(2)};
                case "change": return new int[] {wildly(below(model.units.size())),
                    below(2) == 0 ? -1 : signature()};
                default: return new int[count];
            }
        }

        int[] itemArguments() {
            int s = below(model.structures.size());
            if (below(5) == 0 || model.structures.isEmpty() || model.structures.get(s).isEmpty()) {
                return new int[] {structure(), wildly(below(3)), name(), wildly(below(3))};
            }
            Item item = model.structures.get(s).get(below(model.structures.get(s).size()));
            return new int[] {s, item.kind, item.name, wildly(below(3))};
        }

        int[] withArguments() {
            List<int[]> all = new ArrayList<>();
            for (int g = 0; g < model.signatures.size(); g++) {
                for (Spec spec : model.signatures.get(g)) {
                    if (spec.kind == 0 && spec.told == -100) {
                        all.add(new int[] {g, spec.name});
                    }
                }
            }
            if (below(5) == 0 || all.isEmpty()) {
                return new int[] {signature(), name(), type(), below(2)};
            }
            int[] one = all.get(below(all.size()));
            return new int[] {one[0], one[1], type(), below(2)};
        }

        /** Writes specs that match a structure, in its order or nearly so. */
        void specsOfStructure() {
            if (model.structures.isEmpty()) {
                return;
            }
            call("signature");
            List<Item> items = new ArrayList<>(model.structures.get(below(model.structures.size())));
            if (below(2) == 0) {
                java.util.Collections.shuffle(items, random);
            }
            for (Item item : items) {
                if (below(6) == 0) {
                    continue;
                }
                if (item.kind == 0) {
                    call("specType", item.name, below(2) == 0 ? -100 : toldAs(items, item.content));
                } else if (item.kind == 1) {
                    specOfValue(items, item);
                } else {
                    call("specPart", item.name, signatureFor(item.content));
                }
            }
            call("signature");
        }

        void specOfValue(List<Item> items, Item item) {
            Type type = model.types.get(item.content);
            if (type.kind == 2 && below(3) > 0) {
                call("specValue", item.name, toldAs(items, type.from), toldAs(items, type.to));
            } else {
                call("specValue", item.name, toldAs(items, item.content), -100);
            }
        }

        int toldAs(List<Item> items, int type) {
            for (Item item : items) {
                if (item.kind == 0 && item.content == type && below(4) > 0) {
                    return -1 - item.name;
                }
            }
            return type;
        }

        int signatureFor(int structure) {
            List<Integer> all = new ArrayList<>();
            for (int g = 0; g < model.signatures.size(); g++) {
                if (model.match(model.structures.get(structure), model.signatures.get(g)) == 0) {
                    all.add(g);
                }
            }
            return all.isEmpty() ? signature() : all.get(below(all.size()));
        }

        /** Writes a signature like another one, with a spec told, left out or put in. */
        void specsOfSignature() {
            if (model.signatures.isEmpty()) {
                return;
            }
            call("signature");
            for (Spec spec : new ArrayList<>(model.signatures.get(below(model.signatures.size())))) {
                int told = below(8) == 0 ? spec.kind == 2 ? signature() : told() : spec.told;
                if (below(12) == 0) {
                    anyCall();
                }
                if (below(12) == 0) {
                    continue;
                }
                if (spec.kind == 0) {
                    call("specType", spec.name, told);
                } else if (spec.kind == 1) {
                    call("specValue", spec.name, told, spec.to);
                } else {
                    call("specPart", spec.name, told);
                }
            }
            call("signature");
        }

        void bodyOfSignature() {
            if (model.signatures.isEmpty()) {
                return;
            }
            int g = below(model.signatures.size());
            for (Spec spec : new ArrayList<>(model.signatures.get(g))) {
                if (spec.kind == 0) {
                    call("bodyType", below(2) == 0 ? spec.name : name(), below(2) == 0 ? spec.name : -1);
                } else if (spec.kind == 1) {
                    call("bodyValue", spec.name, spec.told, spec.to, below(2) == 0 ? spec.name : -1, number());
                }
            }
            call("functor", g, below(2) == 0 ? -1 : below(2) == 0 ? g : signature(), below(2));
        }

        /** A call that needs a structure and a signature that go together. */
        void matchedCall() {
            if (model.structures.isEmpty()) {
                return;
            }
            int s = below(model.structures.size());
            String[] ops = {"seal", "view", "pack", "match", "unpack", "apply", "apply"};
            String op = ops[below(ops.length)];
            if (op.equals("unpack")) {
                call(op, below(model.packs.size()));
            } else if (op.equals("apply")) {
                call(op, below(model.functors.size()), s);
            } else {
                call(op, s, signatureFor(s));
            }
        }
    }

    // ---- how often each answer was seen, so that a run that never gets anywhere is noticed

    private static final Map<String, int[]> TALLIES = new HashMap<>();

    private static void tally(String name, long answer) {
        int[] tally = TALLIES.computeIfAbsent(name, key -> new int[4]);
        tally[answer > -1000000 ? 0 : (int) (-answer - 1000000)]++;
    }

    public static void main(String[] args) {
        int runs = args.length > 0 ? Integer.parseInt(args[0]) : RUNS;
        long first = args.length > 1 ? Long.parseLong(args[1]) : 0;
        for (long seed = first; seed < first + runs; seed++) {
            Run run = new Run(seed);
            run.run();
            if (!run.isRight) {
                System.out.println("run " + seed + " is not as due:\n" + run.log);
                System.exit(1);
            }
        }
        for (String name : NAMES) {
            int[] tally = TALLIES.getOrDefault(name, new int[4]);
            System.out.println(name + ": " + tally[0] + " answered, threw "
                    + tally[1] + " " + tally[2] + " " + tally[3]);
            if (tally[0] < runs / 10) {
                System.out.println(name + " hardly ever answers");
                System.exit(1);
            }
        }
    }
}
