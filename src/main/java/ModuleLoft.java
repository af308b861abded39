/**
 * A language of modules: types, structures, signatures, matching, sealing, functors, packs and units.
 *
 * Structures, signatures and the bodies of functors are all rows of entries (class Row). A structure is
 * the row in which each type is told by its number; that is why one way of matching serves for structures
 * by signatures and for signatures by signatures.
 */
public final class ModuleLoft {
    public static final int NONE = -1;
    public static final int INT = 0, BOOL = 1;
    public static final int ABSTRACT = -100, PLAIN = -100;

    private static final int TYPE = 0, VALUE = 1, PART = 2, KINDS = 3;
    private static final int NAMES = 10;
    private static final int MOST_NUMBER = 10000;
    private static final int MOST_TYPES = 200;
    private static final int MOST_STRUCTURES = 30;
    private static final int MOST_SIGNATURES = 20;
    private static final int MOST_SPECS = 60;
    private static final int MOST_FUNCTORS = 8;
    private static final int MOST_PACKS = 10;
    private static final int MOST_UNITS = 8;
    /** The parts of a signature have signatures that were made ahead of it, so none is nested deeper. */
    private static final int MOST_DEPTH = MOST_SIGNATURES;

    /** The columns of a row's entries; TOLD holds the structure or signature of a part. */
    private static final int KIND = 0, NAME = 1, TOLD = 2, TO = 3, NUMBER = 4, FROM = 5, COLUMNS = 6;
    private static final int MOST_ENTRIES = KINDS * NAMES;
    /** Stands for a type name that is not there; no type and no type name is told so. */
    private static final int MISSING = -200;

    private final TypeTable types;
    private final Shelf structures;
    private final Shelf signatures;
    private final Row structureDraft;
    private final Row signatureDraft;
    private final Row bodyDraft;
    private final Functor[] functors;
    private int functorCount;
    private final Pack[] packs;
    private int packCount;
    private final Unit[] units;
    private int unitCount;

    public ModuleLoft() {
        types = new TypeTable();
        structures = new Shelf(new Row[MOST_STRUCTURES]);
        signatures = new Shelf(new Row[MOST_SIGNATURES]);
        structureDraft = new Row();
        signatureDraft = new Row();
        bodyDraft = new Row();
        functors = new Functor[MOST_FUNCTORS];
        packs = new Pack[MOST_PACKS];
        units = new Unit[MOST_UNITS];
    }

    // ---- types

    public int arrow(int from, int to) throws IndexOutOfBoundsException, IllegalStateException {
        needType(from);
        needType(to);
        int found = types.arrowOf(from, to);
        if (found == NONE) {
            throw new IllegalStateException("no room for another type");
        }
        return found;
    }

    public int type(int type, int what) throws IndexOutOfBoundsException, IllegalArgumentException {
        needType(type);
        if (what == 0) {
            return types.kindOf(type);
        }
        if (what == 1) {
            return types.fromOf(type);
        }
        if (what == 2) {
            return types.toOf(type);
        }
        throw new IllegalArgumentException("what is 0 to 2");
    }

    // ---- structures

    public int addType(int name, int type)
            throws IndexOutOfBoundsException, IllegalArgumentException, IllegalStateException {
        if (type != NONE) {
            needType(type);
        }
        needName(name);
        int added = type == NONE ? types.newOne() : type;
        if (added == NONE) {
            throw new IllegalStateException("no room for another type");
        }
        addHiding(TYPE, name, added, 0);
        return added;
    }

    public boolean addValue(int name, int type, int number)
            throws IndexOutOfBoundsException, IllegalArgumentException {
        needType(type);
        needName(name);
        needNumber(number);
        return addHiding(VALUE, name, type, number);
    }

    public boolean addPart(int name, int structure) throws IndexOutOfBoundsException, IllegalArgumentException {
        needRow(structures.at(structure));
        needName(name);
        return addHiding(PART, name, structure, 0);
    }

    public int open(int structure) throws IndexOutOfBoundsException {
        Row opened = structures.at(structure);
        if (opened == null) {
            throw new IndexOutOfBoundsException("no such structure");
        }
        int hidden = 0;
        for (int place = 0; place < opened.count; place++) {
            if (addHiding(opened.get(place, KIND), opened.get(place, NAME),
                    opened.get(place, TOLD), opened.get(place, NUMBER))) {
                hidden++;
            }
        }
        return hidden;
    }

    public int structure() throws IllegalStateException {
        int number = structures.keep(structureDraft);
        if (number == NONE) {
            throw new IllegalStateException("no room for another structure");
        }
        return number;
    }

    public int item(int structure, int kind, int name, int what)
            throws IndexOutOfBoundsException, IllegalArgumentException {
        Row asked = structures.at(structure);
        if (asked == null) {
            throw new IndexOutOfBoundsException("no such structure");
        }
        if (kind < 0 || kind >= KINDS) {
            throw new IllegalArgumentException("kind is 0 to 2");
        }
        int place = asked.placeOf(kind, name);
        if (place == NONE) {
            throw new IndexOutOfBoundsException("no such item");
        }
        if (what < 0 || what > 2) {
            throw new IllegalArgumentException("what is 0 to 2");
        }
        if (what == 1) {
            return place;
        }
        return asked.get(place, what == 0 ? TOLD : NUMBER);
    }

    public int items(int structure) throws IndexOutOfBoundsException {
        Row asked = structures.at(structure);
        if (asked == null) {
            throw new IndexOutOfBoundsException("no such structure");
        }
        return asked.count;
    }

    /** Only the type items of bodies come from elsewhere, so those of a structure have no FROM. */
    private boolean addHiding(int kind, int name, int content, int number) {
        int hidden = structureDraft.placeOf(kind, name);
        if (hidden != NONE) {
            structureDraft.takeOut(hidden);
        }
        structureDraft.add(kind, name, content, PLAIN, number, NONE);
        return hidden != NONE;
    }

    // ---- signatures

    public int specType(int name, int told)
            throws IndexOutOfBoundsException, IllegalArgumentException, IllegalStateException {
        if (told != ABSTRACT) {
            needTold(signatureDraft, told);
        }
        needName(name);
        needPlace(signatureDraft, TYPE, name);
        needRoomForSpecs(1);
        signatureDraft.add(TYPE, name, told, PLAIN, 0, NONE);
        signatureDraft.allSpecs++;
        return signatureDraft.count;
    }

    public int specValue(int name, int told, int to)
            throws IndexOutOfBoundsException, IllegalArgumentException, IllegalStateException {
        needTold(signatureDraft, told);
        if (to != PLAIN) {
            needTold(signatureDraft, to);
        }
        needName(name);
        needPlace(signatureDraft, VALUE, name);
        needRoomForSpecs(1);
        signatureDraft.add(VALUE, name, told, to, 0, NONE);
        signatureDraft.allSpecs++;
        return signatureDraft.count;
    }

    public int specPart(int name, int signature)
            throws IndexOutOfBoundsException, IllegalArgumentException, IllegalStateException {
        Row part = signatures.at(signature);
        if (part == null) {
            throw new IndexOutOfBoundsException("no such signature");
        }
        needName(name);
        needPlace(signatureDraft, PART, name);
        needRoomForSpecs(1 + part.allSpecs);
        signatureDraft.add(PART, name, signature, PLAIN, 0, NONE);
        signatureDraft.allSpecs += 1 + part.allSpecs;
        signatureDraft.allParts += 1 + part.allParts;
        return signatureDraft.count;
    }

    public int include(int signature) throws IndexOutOfBoundsException, IllegalStateException {
        Row included = signatures.at(signature);
        if (included == null) {
            throw new IndexOutOfBoundsException("no such signature");
        }
        for (int place = 0; place < included.count; place++) {
            needPlace(signatureDraft, included.get(place, KIND), included.get(place, NAME));
        }
        needRoomForSpecs(included.allSpecs);
        signatureDraft.addAll(included);
        return signatureDraft.count;
    }

    public int signature() throws IllegalStateException {
        int number = signatures.keep(signatureDraft);
        if (number == NONE) {
            throw new IllegalStateException("no room for another signature");
        }
        return number;
    }

    public int with(int signature, int name, int type, boolean isTaken)
            throws IndexOutOfBoundsException, IllegalStateException {
        Row old = signatures.at(signature);
        if (old == null) {
            throw new IndexOutOfBoundsException("no such signature");
        }
        needType(type);
        int place = old.placeOf(TYPE, name);
        if (place == NONE || old.get(place, TOLD) != ABSTRACT) {
            throw new IndexOutOfBoundsException("no such abstract type");
        }
        int number = signatures.count;
        Row made = signatures.blank(number);
        if (made == null) {
            throw new IllegalStateException("no room for another signature");
        }
        made.addAll(old);
        if (isTaken) {
            made.tellEverywhere(-1 - name, type);
            made.takeOut(place);
            made.allSpecs--;
        } else {
            made.set(place, TOLD, type);
        }
        signatures.count++;
        return number;
    }

    public int specs(int signature) throws IndexOutOfBoundsException {
        Row asked = signatures.at(signature);
        if (asked == null) {
            throw new IndexOutOfBoundsException("no such signature");
        }
        return asked.count;
    }

    private void needRoomForSpecs(int more) throws IllegalStateException {
        if (signatureDraft.allSpecs + more > MOST_SPECS) {
            throw new IllegalStateException("no room for more specs");
        }
    }

    // ---- matching

    public int match(int structure, int signature) throws IndexOutOfBoundsException {
        needRow(structures.at(structure));
        needRow(signatures.at(signature));
        return firstMisfit(structures, structure, signature, 0);
    }

    public int seal(int structure, int signature) throws IndexOutOfBoundsException, IllegalStateException {
        needRow(structures.at(structure));
        needRow(signatures.at(signature));
        return remade(structure, signature, true);
    }

    public int view(int structure, int signature) throws IndexOutOfBoundsException, IllegalStateException {
        needRow(structures.at(structure));
        needRow(signatures.at(signature));
        return remade(structure, signature, false);
    }

    /**
     * What a signature makes by sealing has the types of its row, and an abstract type is like none but
     * itself; so the row is matched as it is, and no structure has to be made for it.
     */
    public boolean finer(int signature, int other) throws IndexOutOfBoundsException {
        needRow(signatures.at(signature));
        needRow(signatures.at(other));
        return firstMisfit(signatures, signature, other, 0) == 0;
    }

    public boolean alike(int signature, int other) throws IndexOutOfBoundsException {
        needRow(signatures.at(signature));
        needRow(signatures.at(other));
        return areAlike(signature, other, 0);
    }

    /** Returns 10 * the reason + the name, 0 if all fits; the rows that are matched stand on a shelf of their own. */
    private int firstMisfit(Shelf shelf, int number, int signature, int depth) {
        Row matched = shelf.at(number);
        Row wanted = signatures.at(signature);
        if (matched == null || wanted == null || depth > MOST_DEPTH) {
            return NONE;
        }
        for (int place = 0; place < wanted.count; place++) {
            int kind = wanted.get(place, KIND);
            int name = wanted.get(place, NAME);
            int there = matched.placeOf(kind, name);
            // The reasons go by the kinds: what is missing is odd, what does not fit is even.
            if (there == NONE) {
                return 10 * (2 * kind + 1) + name;
            }
            boolean fits = kind == PART
                    ? firstMisfit(shelf, matched.get(there, TOLD), wanted.get(place, TOLD), depth + 1) == 0
                    : fitsType(matched, there, wanted, place);
            if (!fits) {
                return 10 * (2 * kind + 2) + name;
            }
        }
        return 0;
    }

    /** What is wanted is told by type names, which mean the types of the row that is matched. */
    private boolean fitsType(Row matched, int there, Row wanted, int place) {
        int told = wanted.get(place, TOLD);
        if (wanted.get(place, KIND) == TYPE) {
            return told == ABSTRACT || matched.typeOf(-1 - wanted.get(place, NAME)) == matched.typeOf(told);
        }
        return isSameType(
                matched.typeOf(matched.get(there, TOLD)), matched.typeOf(matched.get(there, TO)),
                matched.typeOf(told), matched.typeOf(wanted.get(place, TO)));
    }

    /** Each of the two is a plain type or an arrow of two; a plain one may be the number of an ARROW. */
    private boolean isSameType(int type, int to, int otherType, int otherTo) {
        boolean isArrow = to != PLAIN || types.isArrow(type);
        boolean isOtherArrow = otherTo != PLAIN || types.isArrow(otherType);
        if (isArrow != isOtherArrow) {
            return false;
        }
        if (!isArrow) {
            return type == otherType;
        }
        int from = to == PLAIN ? types.fromOf(type) : type;
        int otherFrom = otherTo == PLAIN ? types.fromOf(otherType) : otherType;
        int end = to == PLAIN ? types.toOf(type) : to;
        int otherEnd = otherTo == PLAIN ? types.toOf(otherType) : otherTo;
        return from == otherFrom && end == otherEnd;
    }

    private boolean areAlike(int signature, int other, int depth) {
        Row one = signatures.at(signature);
        Row two = signatures.at(other);
        if (one == null || two == null || depth > MOST_DEPTH || one.count != two.count) {
            return false;
        }
        for (int place = 0; place < one.count; place++) {
            int told = one.get(place, TOLD);
            int otherTold = two.get(place, TOLD);
            boolean isSame = one.get(place, KIND) == two.get(place, KIND)
                    && one.get(place, NAME) == two.get(place, NAME)
                    && one.get(place, TO) == two.get(place, TO);
            if (!isSame) {
                return false;
            }
            boolean isLike = one.get(place, KIND) == PART
                    ? areAlike(told, otherTold, depth + 1)
                    : told == otherTold;
            if (!isLike) {
                return false;
            }
        }
        return true;
    }

    /** Seals or views a structure; a call that finds no room gives back the types that it made. */
    private int remade(int structure, int signature, boolean isSealed) throws IllegalStateException {
        if (firstMisfit(structures, structure, signature, 0) != 0) {
            throw new IllegalStateException("the structure is not matched");
        }
        int typesBefore = types.count;
        int whole = remake(structure, signature, structures.count, isSealed, 0);
        if (whole == NONE) {
            types.count = typesBefore;
            throw new IllegalStateException("no room for more types or structures");
        }
        structures.count = whole + 1;
        return whole;
    }

    /**
     * Fills the rows from the number first on, the parts ahead of the whole; returns the whole's number, or
     * NONE if there is no room. The rows are not structures before the count of structures says so.
     */
    private int remake(int structure, int signature, int first, boolean isSealed, int depth) {
        Row old = structures.at(structure);
        Row wanted = signatures.at(signature);
        if (old == null || wanted == null || depth > MOST_DEPTH) {
            return NONE;
        }
        int whole = first + wanted.allParts;
        Row made = structures.blank(whole);
        if (made == null) {
            return NONE;
        }
        int next = first;
        for (int place = 0; place < wanted.count; place++) {
            int kind = wanted.get(place, KIND);
            int name = wanted.get(place, NAME);
            int there = old.placeOf(kind, name);
            int content;
            if (kind == PART) {
                content = remake(old.get(there, TOLD), wanted.get(place, TOLD), next, isSealed, depth + 1);
                next = content + 1;
            } else if (wanted.get(place, TOLD) == ABSTRACT) {
                content = isSealed ? types.newOne() : old.get(there, TOLD);
            } else {
                content = typeTold(made, wanted.get(place, TOLD), wanted.get(place, TO));
            }
            if (content < 0) {
                return NONE;
            }
            made.add(kind, name, content, PLAIN, old.get(there, NUMBER), NONE);
        }
        return whole;
    }

    /** Returns the type that is told by the types of a row, an ARROW being made; NONE if there is no room. */
    private int typeTold(Row row, int told, int to) {
        return to == PLAIN ? row.typeOf(told) : types.arrowOf(row.typeOf(told), row.typeOf(to));
    }

    // ---- functors and packs

    public int bodyType(int name, int from) throws IllegalArgumentException, IllegalStateException {
        needName(name);
        if (from != NONE) {
            needName(from);
        }
        needPlace(bodyDraft, TYPE, name);
        bodyDraft.add(TYPE, name, ABSTRACT, PLAIN, 0, from);
        return bodyDraft.count;
    }

    public int bodyValue(int name, int told, int to, int from, int number)
            throws IndexOutOfBoundsException, IllegalArgumentException, IllegalStateException {
        needTold(bodyDraft, told);
        if (to != PLAIN) {
            needTold(bodyDraft, to);
        }
        needName(name);
        if (from != NONE) {
            needName(from);
        }
        needNumber(number);
        needPlace(bodyDraft, VALUE, name);
        bodyDraft.add(VALUE, name, told, to, number, from);
        return bodyDraft.count;
    }

    public int functor(int argument, int result, boolean isPure)
            throws IndexOutOfBoundsException, IllegalStateException {
        Row taken = signatures.at(argument);
        if (taken == null || result != NONE && signatures.at(result) == null) {
            throw new IndexOutOfBoundsException("no such signature");
        }
        int number = functorCount;
        if (number < 0 || number >= functors.length) {
            throw new IllegalStateException("no room for another functor");
        }
        for (int place = 0; place < bodyDraft.count; place++) {
            int from = bodyDraft.get(place, FROM);
            if (from != NONE && taken.placeOf(bodyDraft.get(place, KIND), from) == NONE) {
                throw new IllegalStateException("the argument does not have what the body means");
            }
        }
        Functor made = new Functor(argument, result, isPure);
        made.body.addAll(bodyDraft);
        bodyDraft.clear();
        functors[number] = made;
        functorCount++;
        return number;
    }

    public int apply(int functor, int structure) throws IndexOutOfBoundsException, IllegalStateException {
        Functor applied = functorAt(functor);
        if (applied == null || structures.at(structure) == null) {
            throw new IndexOutOfBoundsException("no such functor or structure");
        }
        int known = applied.resultOf(structure);
        if (known != NONE) {
            return known;
        }
        if (firstMisfit(structures, structure, applied.argument, 0) != 0) {
            throw new IllegalStateException("the structure is not matched");
        }
        int typesBefore = types.count;
        int structuresBefore = structures.count;
        int result = applyAnew(applied, structure);
        if (result == NONE) {
            types.count = typesBefore;
            structures.count = structuresBefore;
            throw new IllegalStateException("what comes of the body is not matched, or finds no room");
        }
        applied.note(structure, result);
        return result;
    }

    public int pack(int structure, int signature) throws IndexOutOfBoundsException, IllegalStateException {
        needRow(structures.at(structure));
        needRow(signatures.at(signature));
        int number = packCount;
        if (number < 0 || number >= packs.length) {
            throw new IllegalStateException("no room for another pack");
        }
        if (firstMisfit(structures, structure, signature, 0) != 0) {
            throw new IllegalStateException("the structure is not matched");
        }
        packs[number] = new Pack(structure, signature);
        packCount++;
        return number;
    }

    public int unpack(int pack) throws IndexOutOfBoundsException, IllegalStateException {
        Pack opened = pack >= 0 && pack < packs.length ? packs[pack] : null;
        if (opened == null) {
            throw new IndexOutOfBoundsException("no such pack");
        }
        return remade(opened.structure, opened.signature, true);
    }

    private Functor functorAt(int number) {
        return number >= 0 && number < functors.length ? functors[number] : null;
    }

    /** Returns NONE if something does not go; the caller gives back what was made until then. */
    private int applyAnew(Functor functor, int structure) {
        int whole = structures.count;
        Row made = structures.blank(whole);
        Row argument = structures.at(structure);
        if (made == null || argument == null || !fill(made, functor.body, argument)) {
            return NONE;
        }
        structures.count++;
        if (functor.result == NONE) {
            return whole;
        }
        if (firstMisfit(structures, whole, functor.result, 0) != 0) {
            return NONE;
        }
        int last = remake(whole, functor.result, structures.count, true, 0);
        if (last != NONE) {
            structures.count = last + 1;
        }
        return last;
    }

    /** Returns false if there is no room for a new type. */
    private boolean fill(Row made, Row body, Row argument) {
        for (int place = 0; place < body.count; place++) {
            int kind = body.get(place, KIND);
            int from = body.get(place, FROM);
            int number = body.get(place, NUMBER);
            int type;
            if (kind == VALUE) {
                type = typeTold(made, body.get(place, TOLD), body.get(place, TO));
                number += from == NONE ? 0 : argument.get(argument.placeOf(VALUE, from), NUMBER);
            } else {
                type = from == NONE ? types.newOne() : argument.typeOf(-1 - from);
            }
            if (type < 0) {
                return false;
            }
            made.add(kind, body.get(place, NAME), type, PLAIN, cut(number), NONE);
        }
        return true;
    }

    private static int cut(int number) {
        return Math.max(-MOST_NUMBER, Math.min(MOST_NUMBER, number));
    }

    // ---- units

    public int unit(int face, int uses, boolean isInlined) throws IndexOutOfBoundsException, IllegalStateException {
        needRow(signatures.at(face));
        int number = unitCount;
        int all = (1 << number) - 1;
        if ((uses & ~all) != 0) {
            throw new IndexOutOfBoundsException("no such unit");
        }
        if (number < 0 || number >= units.length) {
            throw new IllegalStateException("no room for another unit");
        }
        units[number] = new Unit(face, uses, isInlined);
        unitCount++;
        return number;
    }

    public int change(int unit, int face) throws IndexOutOfBoundsException {
        Unit changed = unitAt(unit);
        if (changed == null || face != NONE && signatures.at(face) == null) {
            throw new IndexOutOfBoundsException("no such unit or signature");
        }
        if (face != NONE) {
            changed.face = face;
        }
        changed.changes++;
        return changed.changes;
    }

    public int stale() {
        int set = 0;
        for (int number = 0; number < unitCount; number++) {
            Unit asked = unitAt(number);
            if (asked != null && isStale(asked)) {
                set |= 1 << number;
            }
        }
        return set;
    }

    public int build() {
        int built = 0;
        for (int number = 0; number < unitCount; number++) {
            Unit asked = unitAt(number);
            if (asked != null && isStale(asked)) {
                noteAllUsed(asked);
                built++;
            }
        }
        return built;
    }

    private Unit unitAt(int number) {
        return number >= 0 && number < units.length ? units[number] : null;
    }

    private boolean isStale(Unit asked) {
        if (asked.changesBuilt != asked.changes) {
            return true;
        }
        for (int number = 0; number < unitCount; number++) {
            Unit used = unitAt(number);
            if (used != null && asked.isUsing(number)
                    && (!areAlike(used.face, asked.notedFace(number), 0)
                    || used.isInlined && used.changes != asked.notedChanges(number))) {
                return true;
            }
        }
        return false;
    }

    private void noteAllUsed(Unit builtOne) {
        builtOne.changesBuilt = builtOne.changes;
        for (int number = 0; number < unitCount; number++) {
            Unit used = unitAt(number);
            if (used != null && builtOne.isUsing(number)) {
                builtOne.note(number, used.face, used.changes);
            }
        }
    }

    // ---- what arguments have to be

    private void needType(int type) throws IndexOutOfBoundsException {
        if (!types.has(type)) {
            throw new IndexOutOfBoundsException("no such type");
        }
    }

    private static void needRow(Row row) throws IndexOutOfBoundsException {
        if (row == null) {
            throw new IndexOutOfBoundsException("no such structure or signature");
        }
    }

    private void needTold(Row draft, int told) throws IndexOutOfBoundsException {
        boolean isThere = told < 0 ? draft.placeOf(TYPE, -1 - told) != NONE : types.has(told);
        if (!isThere) {
            throw new IndexOutOfBoundsException("no such type or type name");
        }
    }

    private static void needName(int name) throws IllegalArgumentException {
        if (name < 0 || name >= NAMES) {
            throw new IllegalArgumentException("a name is 0 to 9");
        }
    }

    private static void needNumber(int number) throws IllegalArgumentException {
        if (number < -MOST_NUMBER || number > MOST_NUMBER) {
            throw new IllegalArgumentException("a number is -10000 to 10000");
        }
    }

    private static void needPlace(Row draft, int kind, int name) throws IllegalStateException {
        if (draft.placeOf(kind, name) != NONE) {
            throw new IllegalStateException("the name is there already");
        }
    }

    /** Reads an array at an index that may lie outside of it. */
    private static int read(int[] cells, int index) {
        return index >= 0 && index < cells.length ? cells[index] : NONE;
    }

    /** Writes an array; an index outside of it is left alone. */
    private static void write(int[] cells, int index, int value) {
        if (index >= 0 && index < cells.length) {
            cells[index] = value;
        }
    }

    /** All types. What is behind the count was given back, and is written anew. */
    private static final class TypeTable {
        private final int[] froms = new int[MOST_TYPES];
        private final int[] tos = new int[MOST_TYPES];
        private int count;

        private TypeTable() {
            append(NONE, NONE);
            append(NONE, NONE);
        }

        private boolean has(int type) {
            return type >= 0 && type < count;
        }

        private int fromOf(int type) {
            return has(type) ? read(froms, type) : NONE;
        }

        private int toOf(int type) {
            return has(type) ? read(tos, type) : NONE;
        }

        private boolean isArrow(int type) {
            return has(type) && read(froms, type) != NONE;
        }

        private int kindOf(int type) {
            if (isArrow(type)) {
                return 2;
            }
            return type == INT || type == BOOL ? 0 : 1;
        }

        /** Returns NONE if there is no room, as arrowOf does. */
        private int newOne() {
            return append(NONE, NONE);
        }

        private int arrowOf(int from, int to) {
            if (!has(from) || !has(to)) {
                return NONE;
            }
            for (int type = 0; type < count; type++) {
                if (fromOf(type) == from && toOf(type) == to) {
                    return type;
                }
            }
            return append(from, to);
        }

        private int append(int from, int to) {
            if (count >= MOST_TYPES) {
                return NONE;
            }
            write(froms, count, from);
            write(tos, count, to);
            count++;
            return count - 1;
        }
    }

    /** A row of entries: a draft, a structure, a signature or the body of a functor. */
    private static final class Row {
        private final int[] cells = new int[MOST_ENTRIES * COLUMNS];
        private int count;
        /** How many specs a signature has, those of its parts counted as often as they stand. */
        private int allSpecs;
        /** How many of these are parts: as many structures are made ahead of the whole by sealing. */
        private int allParts;

        private int get(int place, int column) {
            int cell = place * COLUMNS + column;
            return place >= 0 && place < count && cell >= 0 && cell < cells.length ? cells[cell] : NONE;
        }

        private void set(int place, int column, int value) {
            int cell = place * COLUMNS + column;
            if (place >= 0 && place < count && cell >= 0 && cell < cells.length) {
                cells[cell] = value;
            }
        }

        private int placeOf(int kind, int name) {
            for (int place = 0; place < count; place++) {
                if (get(place, KIND) == kind && get(place, NAME) == name) {
                    return place;
                }
            }
            return NONE;
        }

        private void add(int kind, int name, int told, int to, int number, int from) {
            if (count >= MOST_ENTRIES) {
                return;
            }
            int place = count;
            count++;
            set(place, KIND, kind);
            set(place, NAME, name);
            set(place, TOLD, told);
            set(place, TO, to);
            set(place, NUMBER, number);
            set(place, FROM, from);
        }

        private void addAll(Row other) {
            for (int place = 0; place < other.count; place++) {
                add(other.get(place, KIND), other.get(place, NAME), other.get(place, TOLD),
                        other.get(place, TO), other.get(place, NUMBER), other.get(place, FROM));
            }
            allSpecs += other.allSpecs;
            allParts += other.allParts;
        }

        private void takeOut(int taken) {
            for (int place = taken; place < count - 1; place++) {
                for (int column = 0; column < COLUMNS; column++) {
                    set(place, column, get(place + 1, column));
                }
            }
            count--;
        }

        private void clear() {
            count = 0;
            allSpecs = 0;
            allParts = 0;
        }

        /** What stood for a type name stands for a type then; a part tells none. */
        private void tellEverywhere(int told, int type) {
            for (int place = 0; place < count; place++) {
                if (get(place, TOLD) == told) {
                    set(place, TOLD, type);
                }
                if (get(place, TO) == told) {
                    set(place, TO, type);
                }
            }
        }

        /**
         * Returns the type that is told, or the name of an abstract type as it is told: it is like none but
         * itself. PLAIN tells no type, and stays. A name is told by one ahead of it, so there are no more steps
         * than names.
         */
        private int typeOf(int told) {
            if (told == PLAIN) {
                return PLAIN;
            }
            int type = told;
            for (int step = 0; step <= NAMES && type < 0; step++) {
                int place = placeOf(TYPE, -1 - type);
                if (place == NONE) {
                    return MISSING;
                }
                if (get(place, TOLD) == ABSTRACT) {
                    return type;
                }
                type = get(place, TOLD);
            }
            return type;
        }
    }

    /** Rows with numbers. A row behind the count is free: it is used for the next one of its number. */
    private static final class Shelf {
        private final Row[] rows;
        private int count;

        private Shelf(Row[] rows) {
            this.rows = rows;
        }

        private Row at(int number) {
            return number >= 0 && number < count && number < rows.length ? rows[number] : null;
        }

        /** Returns a free row for a number, emptied, or null if there is no room for the number. */
        private Row blank(int number) {
            if (number < count || number < 0 || number >= rows.length) {
                return null;
            }
            Row row = rows[number];
            if (row == null) {
                row = new Row();
                rows[number] = row;
            }
            row.clear();
            return row;
        }

        /** Returns the number under which a draft is kept; the draft is empty then. NONE if there is no room. */
        private int keep(Row draft) {
            Row row = blank(count);
            if (row == null) {
                return NONE;
            }
            row.addAll(draft);
            draft.clear();
            count++;
            return count - 1;
        }
    }

    private static final class Functor {
        private final int argument;
        private final int result;
        private final boolean isPure;
        private final Row body;
        /** For each structure the result of applying it, or NONE. */
        private final int[] results;

        private Functor(int argument, int result, boolean isPure) {
            this.argument = argument;
            this.result = result;
            this.isPure = isPure;
            body = new Row();
            results = new int[MOST_STRUCTURES];
            for (int number = 0; number < MOST_STRUCTURES; number++) {
                write(results, number, NONE);
            }
        }

        private int resultOf(int structure) {
            return isPure ? read(results, structure) : NONE;
        }

        private void note(int structure, int made) {
            write(results, structure, made);
        }
    }

    private static final class Pack {
        private final int structure;
        private final int signature;

        private Pack(int structure, int signature) {
            this.structure = structure;
            this.signature = signature;
        }
    }

    private static final class Unit {
        private final int uses;
        private final boolean isInlined;
        private int face;
        private int changes;
        /** How often it was changed when it was built; NONE if it was never built. */
        private int changesBuilt = NONE;
        private final int[] faces = new int[MOST_UNITS];
        private final int[] changesSeen = new int[MOST_UNITS];

        private Unit(int face, int uses, boolean isInlined) {
            this.face = face;
            this.uses = uses;
            this.isInlined = isInlined;
        }

        private boolean isUsing(int number) {
            return (uses >> number & 1) == 1;
        }

        private void note(int number, int usedFace, int usedChanges) {
            write(faces, number, usedFace);
            write(changesSeen, number, usedChanges);
        }

        private int notedFace(int number) {
            return read(faces, number);
        }

        private int notedChanges(int number) {
            return read(changesSeen, number);
        }
    }
}
