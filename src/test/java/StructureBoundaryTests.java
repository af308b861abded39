/**
 * The boundary cases of promises 1 to 10: the object, types and structures. The comment above each test is the
 * sentence of the document that it holds.
 */
public final class StructureBoundaryTests extends Checks {

    // ---- promise 1

    // "Creates it with two types": INT 0, BOOL 1.
    static void promise1TwoTypes() {
        ModuleLoft x = new ModuleLoft();
        due(0, x.type(0, 0));
        due(0, x.type(1, 0));
        dueThrow(IOOBE, () -> x.type(-1, 0));
        dueThrow(IOOBE, () -> x.type(2, 0));
        due(2, x.addType(0, -1));
    }

    // "all drafts are empty."
    static void promise1EmptyDrafts() {
        ModuleLoft x = new ModuleLoft();
        due(0, x.structure());
        due(0, x.items(0));
        due(0, x.signature());
        due(0, x.specs(0));
        due(0, x.functor(0, -1, true));
        due(1, x.apply(0, 0));
        due(0, x.items(1));
    }

    // "Throws IndexOutOfBoundsException if there is no such ..": of a new object nothing is there but the two types.
    static void promise1NothingIsThere() {
        ModuleLoft x = new ModuleLoft();
        dueThrow(IOOBE, () -> x.items(0));
        dueThrow(IOOBE, () -> x.specs(0));
        dueThrow(IOOBE, () -> x.functor(0, -1, false));
        dueThrow(IOOBE, () -> x.apply(0, 0));
        dueThrow(IOOBE, () -> x.unpack(0));
        dueThrow(IOOBE, () -> x.change(0, -1));
        dueThrow(IOOBE, () -> x.unit(0, 0, false));
        due(0, x.stale());
        due(0, x.build());
    }

    // "An object is used for at most 512 calls after it has been made": the 512th one is still answered.
    static void promise1LastCall() {
        ModuleLoft x = counter();
        int calls = 6;
        while (calls < 509) {
            due(2, x.items(0));
            calls++;
        }
        due(1, x.seal(0, 0));
        due(3, x.item(1, TYPE, 0, 0));
        due(5, x.item(1, VALUE, 0, 2));
    }

    // "Creates it": what is done to one object does not show in another one.
    static void promise1ObjectsApart() {
        ModuleLoft one = counter();
        ModuleLoft other = new ModuleLoft();
        one.addValue(3, 0, 1);
        one.specType(3, A);
        one.bodyType(3, -1);
        one.unit(0, 0, false);
        one.pack(0, 0);
        due(2, other.addType(0, -1));
        due(0, other.structure());
        due(1, other.items(0));
        due(0, other.signature());
        due(0, other.specs(0));
        due(0, other.functor(0, -1, false));
        due(1, other.apply(0, 0));
        due(0, other.items(1));
        due(0, other.stale());
        dueThrow(IOOBE, () -> other.unpack(0));
    }

    // ---- promise 2

    // "Throws IndexOutOfBoundsException if there is no such type, of either"
    static void promise2NoSuchType() {
        ModuleLoft x = new ModuleLoft();
        for (int type : new int[] {-1, 2, ModuleLoft.ABSTRACT, 199, 200, LEAST, GREATEST}) {
            dueThrow(IOOBE, () -> x.arrow(type, 0));
            dueThrow(IOOBE, () -> x.arrow(0, type));
            dueThrow(IOOBE, () -> x.arrow(type, type));
        }
        due(2, x.arrow(1, 0));
        due(3, x.arrow(2, 2));
        dueThrow(IOOBE, () -> x.arrow(4, 0));
        dueThrow(IOOBE, () -> x.arrow(0, 4));
    }

    // "ARROWs from a type to a type, one for each two": which one it is from counts, and it may be from itself to
    // itself.
    static void promise2OneForEachTwo() {
        ModuleLoft x = new ModuleLoft();
        due(2, x.arrow(0, 0));
        due(3, x.arrow(0, 1));
        due(4, x.arrow(1, 0));
        due(5, x.arrow(1, 1));
        due(6, x.arrow(2, 0));
        due(7, x.arrow(0, 2));
        due(2, x.arrow(0, 0));
        due(3, x.arrow(0, 1));
        due(4, x.arrow(1, 0));
        due(5, x.arrow(1, 1));
        due(6, x.arrow(2, 0));
        due(7, x.arrow(0, 2));
        dueTypes(8, x);
    }

    // "Types are numbered from 0, at most 200": the 200th is made, the next is "more than told".
    static void promise2LastType() {
        ModuleLoft x = new ModuleLoft();
        fillTypes(x, 198);
        due(198, x.arrow(0, 0));
        due(199, x.arrow(198, 198));
        dueThrow(ISE, () -> x.arrow(199, 199));
        dueThrow(ISE, () -> x.arrow(0, 1));
        dueTypes(200, x);
    }

    // "which is made if it is not there yet": one that is there needs no room.
    static void promise2ThereWhenFull() {
        ModuleLoft x = new ModuleLoft();
        x.arrow(0, 1);
        fillTypes(x, 199);
        due(199, x.arrow(198, 0));
        due(2, x.arrow(0, 1));
        due(199, x.arrow(198, 0));
        dueThrow(ISE, () -> x.arrow(0, 198));
    }

    // "If several apply, IndexOutOfBoundsException goes first"
    static void promise2FirstException() {
        ModuleLoft x = new ModuleLoft();
        fillTypes(x, 200);
        dueThrow(IOOBE, () -> x.arrow(0, 200));
        dueThrow(IOOBE, () -> x.arrow(200, 0));
        dueThrow(IOOBE, () -> x.arrow(-1, 0));
        dueThrow(IOOBE, () -> x.arrow(0, -1));
        dueThrow(ISE, () -> x.arrow(0, 199));
    }

    // "A call that throws an exception changes nothing."
    static void promise2Refused() {
        dueRefused(IOOBE, Checks::counter, x -> x.arrow(0, 3));
        dueRefused(IOOBE, Checks::counter, x -> x.arrow(3, 0));
        dueRefused(ISE, StructureBoundaryTests::fullOfTypes, x -> x.arrow(0, 1));
    }

    /** A counter with a draft of a structure, and 200 types. */
    private static ModuleLoft fullOfTypes() {
        ModuleLoft x = counter();
        fillTypes(x, 200);
        x.addType(0, 1);
        x.addValue(4, 1, 7);
        return x;
    }

    // ---- promise 3

    // "type: a type": the first and the last of 200 are, those beside them are not.
    static void promise3FirstAndLast() {
        ModuleLoft x = new ModuleLoft();
        fillTypes(x, 199);
        due(199, x.arrow(0, 198));
        due(0, x.type(0, 0));
        due(1, x.type(198, 0));
        due(2, x.type(199, 0));
        due(0, x.type(199, 1));
        due(198, x.type(199, 2));
        for (int type : new int[] {-1, 200, LEAST, GREATEST}) {
            dueThrow(IOOBE, () -> x.type(type, 0));
        }
    }

    // "what: 0 its kind .. 1 from which type it is an ARROW, 2 to which one": 0 to 2 and no other.
    static void promise3What() {
        ModuleLoft x = new ModuleLoft();
        x.arrow(1, 0);
        due(2, x.type(2, 0));
        due(1, x.type(2, 1));
        due(0, x.type(2, 2));
        for (int what : new int[] {-1, 3, LEAST, GREATEST}) {
            dueThrow(IAE, () -> x.type(2, what));
            dueThrow(IAE, () -> x.type(0, what));
        }
    }

    // "0 INT or BOOL, 1 with a name of its own, 2 an ARROW; .. -1 if it is none"
    static void promise3Kinds() {
        ModuleLoft x = new ModuleLoft();
        x.addType(0, -1);
        x.arrow(0, 0);
        x.arrow(3, 2);
        int[][] want = {{0, -1, -1}, {0, -1, -1}, {1, -1, -1}, {2, 0, 0}, {2, 3, 2}};
        for (int type = 0; type < want.length; type++) {
            for (int what = 0; what < 3; what++) {
                due(want[type][what], x.type(type, what));
            }
        }
    }

    // "If several apply, IndexOutOfBoundsException goes first, then IllegalArgumentException."
    static void promise3FirstException() {
        ModuleLoft x = new ModuleLoft();
        dueThrow(IOOBE, () -> x.type(2, 3));
        dueThrow(IOOBE, () -> x.type(-1, -1));
        dueThrow(IAE, () -> x.type(1, 3));
    }

    // "A call that throws an exception changes nothing."
    static void promise3Refused() {
        dueRefused(IOOBE, Checks::counter, x -> x.type(3, 0));
        dueRefused(IAE, Checks::counter, x -> x.type(2, 3));
    }

    // ---- promise 4

    // "name: 0 to 9"
    static void promise4Names() {
        ModuleLoft x = new ModuleLoft();
        due(0, x.addType(0, 0));
        due(1, x.addType(9, 1));
        for (int name : new int[] {-1, 10, LEAST, GREATEST}) {
            dueThrow(IAE, () -> x.addType(name, 0));
            dueThrow(IAE, () -> x.addType(name, -1));
        }
        x.structure();
        due(2, x.items(0));
        due(0, x.item(0, TYPE, 0, 0));
        due(1, x.item(0, TYPE, 9, 0));
    }

    // "type: a type, or -1 for a new one with a name of its own"
    static void promise4Types() {
        ModuleLoft x = new ModuleLoft();
        for (int type : new int[] {-2, 2, ModuleLoft.ABSTRACT, LEAST, GREATEST}) {
            dueThrow(IOOBE, () -> x.addType(0, type));
        }
        due(0, x.addType(0, 0));
        due(1, x.addType(1, 1));
        due(2, x.addType(2, -1));
        due(1, x.type(2, 0));
        due(2, x.addType(3, 2));
        dueThrow(IOOBE, () -> x.addType(0, 3));
        due(3, x.addType(0, x.arrow(2, 2)));
    }

    // "types with names of their own, each unlike all others": also when the item is hidden at once.
    static void promise4EachUnlikeAllOthers() {
        ModuleLoft x = new ModuleLoft();
        due(2, x.addType(0, -1));
        due(3, x.addType(0, -1));
        due(4, x.addType(1, -1));
        due(1, x.type(2, 0));
        x.structure();
        due(2, x.items(0));
        due(3, x.item(0, TYPE, 0, 0));
        due(4, x.item(0, TYPE, 1, 0));
    }

    // "Types are numbered from 0, at most 200": a new one beyond is not possible, one that is there always is.
    static void promise4LastType() {
        ModuleLoft x = new ModuleLoft();
        fillTypes(x, 199);
        due(199, x.addType(0, -1));
        dueThrow(ISE, () -> x.addType(1, -1));
        dueThrow(ISE, () -> x.addType(0, -1));
        due(199, x.addType(2, 199));
        due(0, x.addType(3, 0));
        dueThrow(IOOBE, () -> x.addType(0, 200));
    }

    // "an item with a name that is there already for its kind hides that, which is taken out; the new one comes
    // behind all."
    static void promise4Hiding() {
        for (int hidden = 0; hidden < 4; hidden++) {
            ModuleLoft x = new ModuleLoft();
            for (int name = 0; name < 4; name++) {
                x.addType(name, 0);
            }
            due(1, x.addType(hidden, 1));
            x.structure();
            due(4, x.items(0));
            for (int name = 0; name < 4; name++) {
                due(name == hidden ? 3 : name < hidden ? name : name - 1, x.item(0, TYPE, name, 1));
                due(name == hidden ? 1 : 0, x.item(0, TYPE, name, 0));
            }
        }
    }

    // The same, where what is hidden is all that there is.
    static void promise4HidingTheOnlyOne() {
        ModuleLoft x = new ModuleLoft();
        x.addType(5, 0);
        due(1, x.addType(5, 1));
        x.structure();
        due(1, x.items(0));
        due(0, x.item(0, TYPE, 5, 1));
        due(1, x.item(0, TYPE, 5, 0));
    }

    // "Names are 0 to 9, for each kind of items by itself."
    static void promise4KindByItself() {
        ModuleLoft x = new ModuleLoft();
        x.structure();
        x.addValue(0, 0, 3);
        x.addPart(0, 0);
        x.addType(0, 1);
        x.structure();
        due(3, x.items(1));
        due(0, x.item(1, VALUE, 0, 1));
        due(1, x.item(1, PART, 0, 1));
        due(2, x.item(1, TYPE, 0, 1));
    }

    // "If several apply, IndexOutOfBoundsException goes first, then IllegalArgumentException."
    static void promise4FirstException() {
        ModuleLoft x = new ModuleLoft();
        dueThrow(IOOBE, () -> x.addType(10, 2));
        dueThrow(IOOBE, () -> x.addType(-1, -2));
        fillTypes(x, 200);
        dueThrow(IAE, () -> x.addType(10, -1));
        dueThrow(IAE, () -> x.addType(-1, -1));
        dueThrow(IOOBE, () -> x.addType(-1, 200));
        dueThrow(ISE, () -> x.addType(9, -1));
    }

    // "A call that throws an exception changes nothing": what the refused item would hide is still there.
    static void promise4Refused() {
        dueRefused(IOOBE, StructureBoundaryTests::drafts, x -> x.addType(0, 3));
        dueRefused(IOOBE, StructureBoundaryTests::drafts, x -> x.addType(0, -2));
        dueRefused(IAE, StructureBoundaryTests::drafts, x -> x.addType(10, -1));
        dueRefused(IAE, StructureBoundaryTests::drafts, x -> x.addType(-1, 0));
        dueRefused(ISE, StructureBoundaryTests::fullOfTypes, x -> x.addType(0, -1));
        dueRefused(ISE, StructureBoundaryTests::fullOfTypes, x -> x.addType(1, -1));
    }

    /** A counter, and a draft of a structure with two items of each kind. */
    private static ModuleLoft drafts() {
        ModuleLoft x = counter();
        for (int name = 0; name < 2; name++) {
            x.addType(name, name);
            x.addValue(name, name, 7);
            x.addPart(name, 0);
        }
        return x;
    }

    // ---- promise 5

    // "name: 0 to 9"
    static void promise5Names() {
        ModuleLoft x = new ModuleLoft();
        due(false, x.addValue(0, 0, 1));
        due(false, x.addValue(9, 0, 2));
        for (int name : new int[] {-1, 10, LEAST, GREATEST}) {
            dueThrow(IAE, () -> x.addValue(name, 0, 0));
        }
        x.structure();
        due(2, x.items(0));
        due(1, x.item(0, VALUE, 0, 2));
        due(2, x.item(0, VALUE, 9, 2));
    }

    // "type: a type": here -1 is none.
    static void promise5Types() {
        ModuleLoft x = new ModuleLoft();
        for (int type : new int[] {-1, -2, 2, ModuleLoft.PLAIN, LEAST, GREATEST}) {
            dueThrow(IOOBE, () -> x.addValue(0, type, 0));
        }
        due(false, x.addValue(0, 0, 0));
        due(false, x.addValue(1, 1, 0));
        fillTypes(x, 200);
        due(false, x.addValue(2, 199, 0));
        dueThrow(IOOBE, () -> x.addValue(3, 200, 0));
        x.structure();
        due(0, x.item(0, VALUE, 0, 0));
        due(1, x.item(0, VALUE, 1, 0));
        due(199, x.item(0, VALUE, 2, 0));
    }

    // "number: -10000 to 10000"
    static void promise5Numbers() {
        ModuleLoft x = new ModuleLoft();
        int[] numbers = {-10000, -9999, -1, 0, 1, 9999, 10000};
        for (int name = 0; name < numbers.length; name++) {
            due(false, x.addValue(name, 0, numbers[name]));
        }
        for (int number : new int[] {-10001, 10001, LEAST, GREATEST}) {
            dueThrow(IAE, () -> x.addValue(0, 0, number));
        }
        x.structure();
        for (int name = 0; name < numbers.length; name++) {
            due(numbers[name], x.item(0, VALUE, name, 2));
        }
    }

    // "Returns true if one was hidden."
    static void promise5Hiding() {
        ModuleLoft x = new ModuleLoft();
        due(false, x.addValue(0, 0, 1));
        due(true, x.addValue(0, 0, 2));
        due(false, x.addValue(1, 0, 3));
        due(false, x.addValue(2, 0, 4));
        due(true, x.addValue(1, 0, 5));
        due(true, x.addValue(1, 0, 6));
        x.structure();
        due(3, x.items(0));
        due(0, x.item(0, VALUE, 0, 1));
        due(2, x.item(0, VALUE, 0, 2));
        due(1, x.item(0, VALUE, 2, 1));
        due(2, x.item(0, VALUE, 1, 1));
        due(6, x.item(0, VALUE, 1, 2));
        due(false, x.addValue(0, 0, 1));
    }

    // "Names are 0 to 9, for each kind of items by itself."
    static void promise5KindByItself() {
        ModuleLoft x = new ModuleLoft();
        x.structure();
        x.addType(0, 0);
        x.addPart(0, 0);
        due(false, x.addValue(0, 0, 0));
        x.structure();
        due(3, x.items(1));
    }

    // "If several apply, IndexOutOfBoundsException goes first, then IllegalArgumentException."
    static void promise5FirstException() {
        ModuleLoft x = new ModuleLoft();
        dueThrow(IOOBE, () -> x.addValue(10, 2, 0));
        dueThrow(IOOBE, () -> x.addValue(0, 2, 10001));
        dueThrow(IOOBE, () -> x.addValue(-1, -1, -10001));
        dueThrow(IAE, () -> x.addValue(10, 1, 10001));
    }

    // "A call that throws an exception changes nothing": what the refused item would hide is still there.
    static void promise5Refused() {
        dueRefused(IOOBE, StructureBoundaryTests::drafts, x -> x.addValue(0, 3, 0));
        dueRefused(IAE, StructureBoundaryTests::drafts, x -> x.addValue(0, 0, 10001));
        dueRefused(IAE, StructureBoundaryTests::drafts, x -> x.addValue(0, 0, -10001));
        dueRefused(IAE, StructureBoundaryTests::drafts, x -> x.addValue(10, 0, 0));
        dueRefused(IAE, StructureBoundaryTests::drafts, x -> x.addValue(-1, 0, 0));
    }

    // ---- promise 6

    // "name: 0 to 9"
    static void promise6Names() {
        ModuleLoft x = counter();
        due(false, x.addPart(0, 0));
        due(false, x.addPart(9, 0));
        for (int name : new int[] {-1, 10, LEAST, GREATEST}) {
            dueThrow(IAE, () -> x.addPart(name, 0));
        }
        x.structure();
        due(2, x.items(1));
        due(0, x.item(1, PART, 0, 1));
        due(1, x.item(1, PART, 9, 1));
    }

    // "structure: a structure": the first and the last of 30 are, those beside them are not.
    static void promise6Structures() {
        ModuleLoft x = new ModuleLoft();
        dueThrow(IOOBE, () -> x.addPart(0, 0));
        due(0, x.structure());
        due(false, x.addPart(0, 0));
        dueThrow(IOOBE, () -> x.addPart(1, 1));
        fillStructures(x, 30);
        due(false, x.addPart(0, 0));
        due(false, x.addPart(1, 29));
        for (int structure : new int[] {-1, 30, LEAST, GREATEST}) {
            dueThrow(IOOBE, () -> x.addPart(2, structure));
        }
    }

    // "Returns true if one was hidden."
    static void promise6Hiding() {
        ModuleLoft x = new ModuleLoft();
        x.structure();
        x.structure();
        due(false, x.addPart(0, 0));
        due(true, x.addPart(0, 1));
        due(false, x.addPart(1, 0));
        due(true, x.addPart(0, 0));
        x.structure();
        due(2, x.items(2));
        due(0, x.item(2, PART, 1, 1));
        due(1, x.item(2, PART, 0, 1));
        due(0, x.item(2, PART, 0, 0));
        due(false, x.addPart(0, 0));
    }

    // "Names are 0 to 9, for each kind of items by itself."
    static void promise6KindByItself() {
        ModuleLoft x = new ModuleLoft();
        x.structure();
        x.addType(0, 0);
        x.addValue(0, 0, 0);
        due(false, x.addPart(0, 0));
        x.structure();
        due(3, x.items(1));
    }

    // "If several apply, IndexOutOfBoundsException goes first, then IllegalArgumentException."
    static void promise6FirstException() {
        ModuleLoft x = counter();
        dueThrow(IOOBE, () -> x.addPart(10, 1));
        dueThrow(IOOBE, () -> x.addPart(-1, -1));
        dueThrow(IAE, () -> x.addPart(10, 0));
    }

    // "A call that throws an exception changes nothing": what the refused item would hide is still there.
    static void promise6Refused() {
        dueRefused(IOOBE, StructureBoundaryTests::drafts, x -> x.addPart(0, 1));
        dueRefused(IOOBE, StructureBoundaryTests::drafts, x -> x.addPart(0, -1));
        dueRefused(IAE, StructureBoundaryTests::drafts, x -> x.addPart(10, 0));
        dueRefused(IAE, StructureBoundaryTests::drafts, x -> x.addPart(-1, 0));
    }

    // ---- promise 7

    // "structure: a structure": the first and the last of 30 are, those beside them are not.
    static void promise7Structures() {
        ModuleLoft x = new ModuleLoft();
        dueThrow(IOOBE, () -> x.open(0));
        x.addValue(0, 0, 1);
        due(0, x.structure());
        dueThrow(IOOBE, () -> x.open(1));
        fillStructures(x, 29);
        x.addValue(1, 0, 1);
        due(29, x.structure());
        due(0, x.open(0));
        due(0, x.open(29));
        due(1, x.open(29));
        for (int structure : new int[] {-1, 30, LEAST, GREATEST}) {
            dueThrow(IOOBE, () -> x.open(structure));
        }
    }

    // "all its items are added to the draft": of an empty structure none are.
    static void promise7EmptyStructure() {
        ModuleLoft x = new ModuleLoft();
        x.structure();
        due(0, x.open(0));
        x.addValue(0, 0, 1);
        due(0, x.open(0));
        x.structure();
        due(1, x.items(1));
        due(0, x.item(1, VALUE, 0, 1));
    }

    // "Returns how many items were hidden": none of an empty draft, all 30 of a full one.
    static void promise7AllOrNone() {
        ModuleLoft x = fullDraft();
        due(1, x.structure());
        due(0, x.open(1));
        due(30, x.open(1));
        due(2, x.structure());
        due(30, x.items(2));
        for (int name = 0; name < 10; name++) {
            for (int kind = 0; kind < 3; kind++) {
                due(x.item(1, kind, name, 1), x.item(2, kind, name, 1));
                due(x.item(1, kind, name, 0), x.item(2, kind, name, 0));
                due(x.item(1, kind, name, 2), x.item(2, kind, name, 2));
            }
        }
    }

    /** Structure 0 is empty, and the draft has 30 items: all names of all kinds. */
    private static ModuleLoft fullDraft() {
        ModuleLoft x = new ModuleLoft();
        x.structure();
        for (int name = 0; name < 10; name++) {
            x.addType(name, name % 2);
            x.addValue(name, 1 - name % 2, name - 10000);
            x.addPart(name, 0);
        }
        return x;
    }

    // "in their order": behind what the draft keeps, and only what has the kind and name is hidden.
    static void promise7Order() {
        ModuleLoft x = new ModuleLoft();
        x.addValue(1, 0, 11);
        x.addType(0, 1);
        x.addValue(0, 0, 10);
        x.structure();
        x.addValue(0, 1, 20);
        x.addType(1, 0);
        x.addValue(2, 1, 22);
        due(1, x.open(0));
        x.structure();
        due(5, x.items(1));
        due(0, x.item(1, TYPE, 1, 1));
        due(1, x.item(1, VALUE, 2, 1));
        due(2, x.item(1, VALUE, 1, 1));
        due(3, x.item(1, TYPE, 0, 1));
        due(4, x.item(1, VALUE, 0, 1));
        due(10, x.item(1, VALUE, 0, 2));
        due(0, x.item(1, VALUE, 0, 0));
        due(1, x.item(1, TYPE, 0, 0));
    }

    // "and never changed": the structure that was opened stays what it is.
    static void promise7NeverChanged() {
        ModuleLoft x = counter();
        x.open(0);
        x.addType(0, 1);
        x.addValue(0, 1, 9);
        x.structure();
        due(2, x.items(0));
        due(2, x.item(0, TYPE, 0, 0));
        due(5, x.item(0, VALUE, 0, 2));
        due(9, x.item(1, VALUE, 0, 2));
    }

    // "A call that throws an exception changes nothing."
    static void promise7Refused() {
        dueRefused(IOOBE, StructureBoundaryTests::drafts, x -> x.open(1));
        dueRefused(IOOBE, StructureBoundaryTests::drafts, x -> x.open(-1));
    }

    // ---- promise 8

    // "Makes the draft a structure; it is empty then."
    static void promise8EmptyThen() {
        ModuleLoft x = new ModuleLoft();
        due(0, x.structure());
        due(0, x.items(0));
        x.addType(0, 0);
        due(1, x.structure());
        due(1, x.items(1));
        due(2, x.structure());
        due(0, x.items(2));
        due(false, x.addValue(0, 0, 1));
    }

    // "They are made of a draft": also of one that has all names of all kinds.
    static void promise8FullDraft() {
        ModuleLoft x = fullDraft();
        due(1, x.structure());
        due(30, x.items(1));
        due(0, x.item(1, TYPE, 0, 1));
        due(29, x.item(1, PART, 9, 1));
        due(-10000, x.item(1, VALUE, 0, 2));
    }

    // "Structures are numbered from 0, at most 30": the next is "more than told".
    static void promise8LastStructure() {
        ModuleLoft x = new ModuleLoft();
        for (int number = 0; number < 30; number++) {
            due(number, x.structure());
        }
        dueThrow(ISE, x::structure);
        dueThrow(ISE, x::structure);
        due(0, x.items(29));
        dueThrow(IOOBE, () -> x.items(30));
    }

    // "and never changed": not by what is added to the draft later, nor by sealing.
    static void promise8NeverChanged() {
        ModuleLoft x = counter();
        x.addType(0, 1);
        x.addValue(0, 0, -5);
        x.seal(0, 0);
        x.structure();
        due(2, x.items(0));
        due(2, x.item(0, TYPE, 0, 0));
        due(5, x.item(0, VALUE, 0, 2));
        due(3, x.item(1, TYPE, 0, 0));
        due(5, x.item(1, VALUE, 0, 2));
    }

    // "A call that throws an exception changes nothing": the draft is not empty then.
    static void promise8Refused() {
        Making full = () -> {
            ModuleLoft x = counter();
            fillStructures(x, 30);
            x.addValue(4, 0, 2);
            x.addPart(5, 29);
            return x;
        };
        dueRefused(ISE, full, ModuleLoft::structure);
        ModuleLoft x = full.make();
        dueThrow(ISE, x::structure);
        due(true, x.addValue(4, 0, 2));
        due(true, x.addPart(5, 0));
        due(false, x.addValue(5, 0, 2));
    }

    // ---- promise 9

    // "structure: a structure": the first and the last of 30 are, those beside them are not.
    static void promise9Structures() {
        ModuleLoft x = new ModuleLoft();
        dueThrow(IOOBE, () -> x.item(0, 0, 0, 0));
        x.addType(0, 1);
        x.structure();
        dueThrow(IOOBE, () -> x.item(1, 0, 0, 0));
        fillStructures(x, 29);
        x.addType(0, 0);
        x.structure();
        due(1, x.item(0, 0, 0, 0));
        due(0, x.item(29, 0, 0, 0));
        for (int structure : new int[] {-1, 30, LEAST, GREATEST}) {
            dueThrow(IOOBE, () -> x.item(structure, 0, 0, 0));
        }
    }

    // "kind: 0 a TYPE, 1 a VALUE, 2 a PART"
    static void promise9Kinds() {
        ModuleLoft x = fullDraft();
        x.structure();
        due(0, x.item(1, 0, 0, 1));
        due(1, x.item(1, 1, 0, 1));
        due(2, x.item(1, 2, 0, 1));
        for (int kind : new int[] {-1, 3, LEAST, GREATEST}) {
            dueThrow(IAE, () -> x.item(1, kind, 0, 0));
        }
    }

    // "name: the name of an item of that kind": what is no name is the name of none.
    static void promise9Names() {
        ModuleLoft x = fullDraft();
        x.structure();
        due(0, x.item(1, TYPE, 0, 1));
        due(27, x.item(1, TYPE, 9, 1));
        for (int name : new int[] {-1, 10, LEAST, GREATEST}) {
            for (int kind = 0; kind < 3; kind++) {
                int asked = kind;
                dueThrow(IOOBE, () -> x.item(1, asked, name, 0));
            }
        }
        x.addValue(4, 0, 0);
        x.structure();
        due(0, x.item(2, VALUE, 4, 1));
        dueThrow(IOOBE, () -> x.item(2, TYPE, 4, 1));
        dueThrow(IOOBE, () -> x.item(2, PART, 4, 1));
        dueThrow(IOOBE, () -> x.item(2, VALUE, 3, 1));
        dueThrow(IOOBE, () -> x.item(2, VALUE, 5, 1));
    }

    // "what: 0 the type of a TYPE or VALUE, the structure of a PART; 1 the place of the item, from 0; 2 the number
    // of a VALUE, otherwise 0"
    static void promise9What() {
        ModuleLoft x = counter();
        x.addPart(0, 0);
        x.addValue(0, 2, -10000);
        x.addType(0, 2);
        x.structure();
        int[][] want = {{2, 2, 0}, {2, 1, -10000}, {0, 0, 0}};
        for (int kind = 0; kind < 3; kind++) {
            int asked = kind;
            for (int what = 0; what < 3; what++) {
                due(want[kind][what], x.item(1, kind, 0, what));
            }
            for (int what : new int[] {-1, 3, LEAST, GREATEST}) {
                dueThrow(IAE, () -> x.item(1, asked, 0, what));
            }
        }
    }

    // "kind goes ahead of the item, what behind it"
    static void promise9FirstException() {
        ModuleLoft x = counter();
        dueThrow(IOOBE, () -> x.item(1, 3, 0, 3));
        dueThrow(IOOBE, () -> x.item(-1, -1, -1, -1));
        dueThrow(IAE, () -> x.item(0, 3, 1, 0));
        dueThrow(IAE, () -> x.item(0, -1, 10, 0));
        dueThrow(IAE, () -> x.item(0, 3, 0, 3));
        dueThrow(IOOBE, () -> x.item(0, TYPE, 1, 3));
        dueThrow(IOOBE, () -> x.item(0, PART, 0, -1));
        dueThrow(IAE, () -> x.item(0, TYPE, 0, 3));
    }

    // "A call that throws an exception changes nothing."
    static void promise9Refused() {
        dueRefused(IOOBE, StructureBoundaryTests::drafts, x -> x.item(1, 0, 0, 0));
        dueRefused(IOOBE, StructureBoundaryTests::drafts, x -> x.item(0, 0, 1, 0));
        dueRefused(IAE, StructureBoundaryTests::drafts, x -> x.item(0, 3, 0, 0));
        dueRefused(IAE, StructureBoundaryTests::drafts, x -> x.item(0, 0, 0, 3));
    }

    // ---- promise 10

    // "Returns how many": from none to all names of all kinds.
    static void promise10HowMany() {
        ModuleLoft x = fullDraft();
        x.structure();
        due(0, x.items(0));
        due(30, x.items(1));
        x.addPart(0, 1);
        x.structure();
        due(1, x.items(2));
    }

    // "structure: a structure": the first and the last of 30 are, those beside them are not.
    static void promise10Structures() {
        ModuleLoft x = new ModuleLoft();
        dueThrow(IOOBE, () -> x.items(0));
        x.structure();
        dueThrow(IOOBE, () -> x.items(1));
        fillStructures(x, 29);
        x.addValue(0, 0, 0);
        x.structure();
        due(0, x.items(0));
        due(1, x.items(29));
        for (int structure : new int[] {-1, 30, LEAST, GREATEST}) {
            dueThrow(IOOBE, () -> x.items(structure));
        }
    }

    // "A call that throws an exception changes nothing": the draft is no structure before it is made one.
    static void promise10Refused() {
        dueRefused(IOOBE, StructureBoundaryTests::drafts, x -> x.items(1));
        dueRefused(IOOBE, StructureBoundaryTests::drafts, x -> x.items(-1));
    }

    public static void main(String[] args) {
        runAll(StructureBoundaryTests.class);
    }
}
