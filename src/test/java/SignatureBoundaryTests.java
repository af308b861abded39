/**
 * The boundary cases of promises 11 to 17: signatures. The comment above each test is the sentence of the document
 * that it holds.
 */
public final class SignatureBoundaryTests extends Checks {
    private static final int[] NO_NAMES = {-1, 10, LEAST, GREATEST};

    // ---- states

    /** Signature 0 is empty, 1 has 29 specs and 2 has 28. */
    private static ModuleLoft wide() {
        ModuleLoft x = new ModuleLoft();
        x.signature();
        for (int parts = 9; parts >= 8; parts--) {
            for (int name = 0; name < 10; name++) {
                x.specType(name, A);
                x.specValue(name, -1 - name, PLAIN);
                if (name < parts) {
                    x.specPart(name, 0);
                }
            }
            x.signature();
        }
        return x;
    }

    /** As wide, and the draft has the PARTs 0 and 1, with those of parts 59 specs. */
    private static ModuleLoft nearlyFull() {
        ModuleLoft x = wide();
        x.specPart(0, 1);
        x.specPart(1, 2);
        return x;
    }

    /** As nearly full, and the draft has TYPE 9 too, with those of parts 60 specs. */
    private static ModuleLoft full() {
        ModuleLoft x = nearlyFull();
        x.specType(9, A);
        return x;
    }

    /** A counter, and a draft of a signature with two specs of each kind; TYPE 0 is abstract, TYPE 9 told. */
    private static ModuleLoft drafts() {
        ModuleLoft x = counter();
        x.specType(0, A);
        x.specType(9, -1);
        x.specValue(0, -1, PLAIN);
        x.specValue(9, -10, -1);
        x.specPart(0, 0);
        x.specPart(9, 0);
        return x;
    }

    // ---- promise 11

    // "name: 0 to 9"
    static void promise11Names() {
        ModuleLoft x = new ModuleLoft();
        for (int name : NO_NAMES) {
            dueThrow(IAE, () -> x.specType(name, A));
            dueThrow(IAE, () -> x.specType(name, 0));
        }
        due(1, x.specType(0, A));
        due(2, x.specType(9, A));
        for (int name : NO_NAMES) {
            dueThrow(IAE, () -> x.specType(name, -1));
        }
    }

    // "What is told is a type, 0 or more": from INT to the last one.
    static void promise11ToldTypes() {
        ModuleLoft x = new ModuleLoft();
        due(1, x.specType(0, 0));
        due(2, x.specType(1, 1));
        dueThrow(IOOBE, () -> x.specType(2, 2));
        dueThrow(IOOBE, () -> x.specType(2, GREATEST));
        fillTypes(x, 200);
        due(3, x.specType(2, 199));
        dueThrow(IOOBE, () -> x.specType(3, 200));
    }

    // "or the type of this signature with the name n, told as -1 - n": -1 is the first name, -10 the last.
    static void promise11ToldNames() {
        ModuleLoft x = new ModuleLoft();
        x.specType(0, A);
        due(2, x.specType(9, -1));
        due(3, x.specType(5, -10));
        for (int told : new int[] {-2, -5, -7, -9, -11, -12, LEAST}) {
            dueThrow(IOOBE, () -> x.specType(1, told));
        }
        due(4, x.specType(1, -6));
    }

    // "told: ABSTRACT, or what is told": what is beside ABSTRACT is no name.
    static void promise11Abstract() {
        ModuleLoft x = new ModuleLoft();
        dueThrow(IOOBE, () -> x.specType(0, -99));
        dueThrow(IOOBE, () -> x.specType(0, -101));
        due(1, x.specType(0, -100));
        dueThrow(IOOBE, () -> x.specType(1, -99));
        dueThrow(IOOBE, () -> x.specType(1, -101));
    }

    // "which has to be there ahead of it": not itself, not a later one, not one of a signature that was made.
    static void promise11Ahead() {
        ModuleLoft x = new ModuleLoft();
        dueThrow(IOOBE, () -> x.specType(3, -4));
        dueThrow(IOOBE, () -> x.specType(4, -4));
        due(1, x.specType(3, A));
        due(2, x.specType(4, -4));
        x.signature();
        dueThrow(IOOBE, () -> x.specType(5, -4));
    }

    // "or the type of this signature with the name n": the longest way from name to name, which ends with a type.
    static void promise11LongestWay() {
        ModuleLoft x = new ModuleLoft();
        x.specType(0, 1);
        for (int name = 1; name < 10; name++) {
            due(name + 1, x.specType(name, -name));
        }
        due(11, x.specValue(0, -10, -10));
        x.signature();
        x.specType(9, 1);
        x.specType(0, A);
        x.specValue(0, 1, -10);
        x.signature();
        due(true, x.finer(0, 1));
        for (int name = 0; name < 10; name++) {
            x.addType(name, 1);
        }
        x.addValue(0, x.arrow(1, 1), 0);
        x.structure();
        due(0, x.match(0, 0));
        due(1, x.seal(0, 0));
        due(1, x.item(1, TYPE, 9, 0));
        x.open(0);
        x.addType(5, 0);
        x.structure();
        due(25, x.match(2, 0));
    }

    // "the type of this signature with the name n": a VALUE or a PART with the name is none.
    static void promise11TypeNamesOnly() {
        ModuleLoft x = counter();
        x.specValue(2, 0, PLAIN);
        x.specPart(2, 0);
        dueThrow(IOOBE, () -> x.specType(1, -3));
        due(3, x.specType(2, A));
        due(4, x.specType(1, -3));
    }

    // "or if a TYPE with the name is there": specs of other kinds with the name are no hindrance.
    static void promise11SameName() {
        ModuleLoft x = counter();
        x.specValue(0, 0, PLAIN);
        x.specPart(0, 0);
        due(3, x.specType(0, A));
        dueThrow(ISE, () -> x.specType(0, A));
        dueThrow(ISE, () -> x.specType(0, 0));
        dueThrow(ISE, () -> x.specType(0, -1));
        x.signature();
        due(1, x.specType(0, A));
    }

    // "there are at most 60 specs": the 60th goes, the next "is not possible".
    static void promise11Sixty() {
        ModuleLoft x = nearlyFull();
        due(3, x.specType(4, A));
        dueThrow(ISE, () -> x.specType(5, A));
        dueThrow(ISE, () -> x.specType(5, -5));
        due(3, x.signature());
        due(3, x.specs(3));
        due(1, x.specType(5, A));
    }

    // "those of its parts, and of their parts, counted as often as they stand"
    static void promise11PartsOfParts() {
        ModuleLoft x = wide();
        x.specPart(0, 1);
        due(3, x.signature());
        due(1, x.specPart(0, 3));
        due(2, x.specPart(1, 2));
        dueThrow(ISE, () -> x.specType(0, A));
        ModuleLoft y = wide();
        y.specPart(0, 1);
        due(2, y.specPart(1, 1));
        dueThrow(ISE, () -> y.specType(0, A));
    }

    // "Returns how many specs the draft has then", "told without those of parts".
    static void promise11HowMany() {
        ModuleLoft x = nearlyFull();
        due(3, x.specType(0, A));
        ModuleLoft y = new ModuleLoft();
        for (int name = 0; name < 10; name++) {
            due(name + 1, y.specType(name, A));
        }
    }

    // "If several apply, IndexOutOfBoundsException goes first, then IllegalArgumentException."
    static void promise11FirstException() {
        ModuleLoft x = full();
        dueThrow(IOOBE, () -> x.specType(10, 2));
        dueThrow(IOOBE, () -> x.specType(-1, -1));
        dueThrow(IOOBE, () -> x.specType(9, 2));
        dueThrow(IOOBE, () -> x.specType(0, -1));
        dueThrow(IAE, () -> x.specType(10, A));
        dueThrow(IAE, () -> x.specType(-1, 0));
        dueThrow(IAE, () -> x.specType(10, -10));
        dueThrow(ISE, () -> x.specType(9, A));
        dueThrow(ISE, () -> x.specType(0, 0));
    }

    // "A call that throws an exception changes nothing."
    static void promise11Refused() {
        dueRefused(IOOBE, SignatureBoundaryTests::drafts, x -> x.specType(1, 3));
        dueRefused(IOOBE, SignatureBoundaryTests::drafts, x -> x.specType(1, -2));
        dueRefused(IAE, SignatureBoundaryTests::drafts, x -> x.specType(10, A));
        dueRefused(IAE, SignatureBoundaryTests::drafts, x -> x.specType(-1, A));
        dueRefused(ISE, SignatureBoundaryTests::drafts, x -> x.specType(0, 1));
        dueRefused(ISE, SignatureBoundaryTests::full, x -> x.specType(0, A));
    }

    // ---- promise 12

    // "name: 0 to 9"
    static void promise12Names() {
        ModuleLoft x = new ModuleLoft();
        for (int name : NO_NAMES) {
            dueThrow(IAE, () -> x.specValue(name, 0, PLAIN));
            dueThrow(IAE, () -> x.specValue(name, 0, 0));
        }
        due(1, x.specValue(0, 0, PLAIN));
        due(2, x.specValue(9, 0, PLAIN));
    }

    // "What is told is a type, 0 or more": on either side, from INT to the last one.
    static void promise12ToldTypes() {
        ModuleLoft x = new ModuleLoft();
        due(1, x.specValue(0, 0, 0));
        due(2, x.specValue(1, 1, 1));
        dueThrow(IOOBE, () -> x.specValue(2, 2, PLAIN));
        dueThrow(IOOBE, () -> x.specValue(2, 2, 0));
        dueThrow(IOOBE, () -> x.specValue(2, 0, 2));
        dueThrow(IOOBE, () -> x.specValue(2, GREATEST, PLAIN));
        dueThrow(IOOBE, () -> x.specValue(2, 0, GREATEST));
        fillTypes(x, 200);
        due(3, x.specValue(2, 199, PLAIN));
        due(4, x.specValue(3, 199, 199));
        dueThrow(IOOBE, () -> x.specValue(4, 200, PLAIN));
        dueThrow(IOOBE, () -> x.specValue(4, 0, 200));
    }

    // "or the type of this signature with the name n, told as -1 - n": on either side; -1 is the first name, -10
    // the last.
    static void promise12ToldNames() {
        ModuleLoft x = new ModuleLoft();
        x.specType(0, A);
        x.specType(9, A);
        due(3, x.specValue(0, -1, PLAIN));
        due(4, x.specValue(1, -10, PLAIN));
        due(5, x.specValue(2, -1, -10));
        due(6, x.specValue(3, -10, -1));
        for (int told : new int[] {-2, -9, -11, -99, -101, LEAST}) {
            dueThrow(IOOBE, () -> x.specValue(4, told, PLAIN));
            dueThrow(IOOBE, () -> x.specValue(4, told, 0));
            dueThrow(IOOBE, () -> x.specValue(4, 0, told));
        }
    }

    // "to: PLAIN, or what is told", but "told: what is told": -100 is PLAIN on one side, and no type name on the
    // other.
    static void promise12Plain() {
        ModuleLoft x = new ModuleLoft();
        x.specType(0, A);
        due(2, x.specValue(0, 0, -100));
        dueThrow(IOOBE, () -> x.specValue(1, -100, PLAIN));
        dueThrow(IOOBE, () -> x.specValue(1, -100, 0));
        dueThrow(IOOBE, () -> x.specValue(1, -100, -1));
    }

    // "which has to be there ahead of it"
    static void promise12Ahead() {
        ModuleLoft x = counter();
        x.specValue(2, 0, PLAIN);
        x.specPart(2, 0);
        dueThrow(IOOBE, () -> x.specValue(3, -3, PLAIN));
        dueThrow(IOOBE, () -> x.specValue(3, 0, -3));
        due(3, x.specType(2, A));
        due(4, x.specValue(3, -3, -3));
        x.signature();
        dueThrow(IOOBE, () -> x.specValue(3, -3, PLAIN));
        dueThrow(IOOBE, () -> x.specValue(3, 0, -3));
    }

    // "or if a VALUE with the name is there": specs of other kinds with the name are no hindrance.
    static void promise12SameName() {
        ModuleLoft x = counter();
        x.specType(0, A);
        x.specPart(0, 0);
        due(3, x.specValue(0, 0, PLAIN));
        dueThrow(ISE, () -> x.specValue(0, 0, PLAIN));
        dueThrow(ISE, () -> x.specValue(0, 1, -1));
        x.signature();
        due(1, x.specValue(0, 0, PLAIN));
    }

    // "there are at most 60 specs": the 60th goes, the next "is not possible".
    static void promise12Sixty() {
        ModuleLoft x = nearlyFull();
        due(3, x.specValue(4, 0, PLAIN));
        dueThrow(ISE, () -> x.specValue(5, 0, PLAIN));
        dueThrow(ISE, () -> x.specValue(5, 0, 0));
        due(3, x.signature());
        due(1, x.specValue(5, 0, 0));
    }

    // "the value is an ARROW from the former to this": it is told, and no type is made by that.
    static void promise12MakesNoType() {
        ModuleLoft x = new ModuleLoft();
        due(1, x.specValue(0, 0, 1));
        dueTypes(2, x);
        fillTypes(x, 200);
        due(2, x.specValue(1, 1, 0));
        dueTypes(200, x);
    }

    // "Returns how many specs the draft has then"
    static void promise12HowMany() {
        ModuleLoft x = new ModuleLoft();
        for (int name = 0; name < 10; name++) {
            due(name + 1, x.specValue(name, 0, PLAIN));
        }
        for (int name = 0; name < 10; name++) {
            due(name + 11, x.specType(name, A));
        }
    }

    // "If several apply, IndexOutOfBoundsException goes first, then IllegalArgumentException."
    static void promise12FirstException() {
        ModuleLoft x = nearlyFull();
        x.specValue(0, 0, PLAIN);
        dueThrow(IOOBE, () -> x.specValue(10, 2, PLAIN));
        dueThrow(IOOBE, () -> x.specValue(10, 0, 2));
        dueThrow(IOOBE, () -> x.specValue(-1, -1, PLAIN));
        dueThrow(IOOBE, () -> x.specValue(0, 2, PLAIN));
        dueThrow(IOOBE, () -> x.specValue(0, 0, -1));
        dueThrow(IAE, () -> x.specValue(10, 0, PLAIN));
        dueThrow(IAE, () -> x.specValue(-1, 0, 0));
        dueThrow(ISE, () -> x.specValue(0, 0, PLAIN));
        dueThrow(ISE, () -> x.specValue(1, 0, PLAIN));
    }

    // "A call that throws an exception changes nothing."
    static void promise12Refused() {
        dueRefused(IOOBE, SignatureBoundaryTests::drafts, x -> x.specValue(1, 3, PLAIN));
        dueRefused(IOOBE, SignatureBoundaryTests::drafts, x -> x.specValue(1, 0, -2));
        dueRefused(IAE, SignatureBoundaryTests::drafts, x -> x.specValue(10, 0, PLAIN));
        dueRefused(IAE, SignatureBoundaryTests::drafts, x -> x.specValue(-1, 0, PLAIN));
        dueRefused(ISE, SignatureBoundaryTests::drafts, x -> x.specValue(0, 1, PLAIN));
        dueRefused(ISE, SignatureBoundaryTests::full, x -> x.specValue(0, 0, PLAIN));
    }

    // ---- promise 13

    // "name: 0 to 9"
    static void promise13Names() {
        ModuleLoft x = counter();
        for (int name : NO_NAMES) {
            dueThrow(IAE, () -> x.specPart(name, 0));
        }
        due(1, x.specPart(0, 0));
        due(2, x.specPart(9, 0));
    }

    // "signature: a signature": the first and the last of 20 are, those beside them are not.
    static void promise13Signatures() {
        ModuleLoft x = new ModuleLoft();
        dueThrow(IOOBE, () -> x.specPart(0, 0));
        due(0, x.signature());
        due(1, x.specPart(0, 0));
        dueThrow(IOOBE, () -> x.specPart(1, 1));
        fillSignatures(x, 20);
        due(1, x.specPart(0, 0));
        due(2, x.specPart(1, 19));
        for (int signature : new int[] {-1, 20, LEAST, GREATEST}) {
            dueThrow(IOOBE, () -> x.specPart(2, signature));
        }
    }

    // "or if a PART with the name is there": specs of other kinds with the name are no hindrance.
    static void promise13SameName() {
        ModuleLoft x = counter();
        x.specType(0, A);
        x.specValue(0, 0, PLAIN);
        due(3, x.specPart(0, 0));
        dueThrow(ISE, () -> x.specPart(0, 0));
        x.signature();
        due(1, x.specPart(0, 1));
    }

    // "at most 60 specs, those of its parts .. counted": a part takes one beside the specs that it has.
    static void promise13Sixty() {
        ModuleLoft x = nearlyFull();
        due(3, x.signature());
        due(1, x.specPart(0, 3));
        dueThrow(ISE, () -> x.specPart(1, 0));
        due(4, x.signature());
        dueThrow(ISE, () -> x.specPart(0, 4));
        due(1, x.specPart(0, 0));
        dueThrow(ISE, () -> x.specPart(1, 3));
        due(2, x.specPart(1, 1));
    }

    // The same, where the part itself is the 60th, as it has no specs.
    static void promise13EmptyPart() {
        ModuleLoft x = nearlyFull();
        due(3, x.specPart(2, 0));
        dueThrow(ISE, () -> x.specPart(3, 0));
    }

    // The same, where the part has specs: as many as there is room for, and one more.
    static void promise13LastPart() {
        ModuleLoft x = wide();
        x.specPart(0, 1);
        due(2, x.specPart(1, 1));
        ModuleLoft y = wide();
        y.specType(0, A);
        y.specPart(0, 1);
        dueThrow(ISE, () -> y.specPart(1, 1));
        due(3, y.specPart(1, 2));
        dueThrow(ISE, () -> y.specPart(2, 0));
    }

    // "If several apply, IndexOutOfBoundsException goes first, then IllegalArgumentException."
    static void promise13FirstException() {
        ModuleLoft x = full();
        dueThrow(IOOBE, () -> x.specPart(10, 3));
        dueThrow(IOOBE, () -> x.specPart(-1, -1));
        dueThrow(IOOBE, () -> x.specPart(0, 3));
        dueThrow(IAE, () -> x.specPart(10, 1));
        dueThrow(IAE, () -> x.specPart(-1, 0));
        dueThrow(ISE, () -> x.specPart(0, 0));
        dueThrow(ISE, () -> x.specPart(2, 0));
    }

    // "A call that throws an exception changes nothing."
    static void promise13Refused() {
        dueRefused(IOOBE, SignatureBoundaryTests::drafts, x -> x.specPart(1, 1));
        dueRefused(IOOBE, SignatureBoundaryTests::drafts, x -> x.specPart(1, -1));
        dueRefused(IAE, SignatureBoundaryTests::drafts, x -> x.specPart(10, 0));
        dueRefused(IAE, SignatureBoundaryTests::drafts, x -> x.specPart(-1, 0));
        dueRefused(ISE, SignatureBoundaryTests::drafts, x -> x.specPart(0, 0));
        dueRefused(ISE, SignatureBoundaryTests::nearlyFull, x -> x.specPart(2, 1));
        dueRefused(ISE, SignatureBoundaryTests::full, x -> x.specPart(2, 0));
    }

    // ---- promise 14

    // "signature: a signature": the first and the last of 20 are, those beside them are not.
    static void promise14Signatures() {
        ModuleLoft x = new ModuleLoft();
        dueThrow(IOOBE, () -> x.include(0));
        x.specType(0, A);
        due(0, x.signature());
        dueThrow(IOOBE, () -> x.include(1));
        fillSignatures(x, 19);
        x.specType(1, A);
        due(19, x.signature());
        due(1, x.include(0));
        due(2, x.include(19));
        for (int signature : new int[] {-1, 20, LEAST, GREATEST}) {
            dueThrow(IOOBE, () -> x.include(signature));
        }
    }

    // "Adds all specs of a signature to the draft": of an empty one none, as often as it is included.
    static void promise14EmptySignature() {
        ModuleLoft x = full();
        due(3, x.include(0));
        due(3, x.include(0));
        due(3, x.signature());
        due(0, x.include(0));
        due(1, x.specType(0, A));
        due(1, x.include(0));
    }

    // "all specs of a signature .., in their order": all 30 names of all kinds.
    static void promise14AllNames() {
        ModuleLoft x = wide();
        x.specPart(9, 0);
        due(30, x.include(1));
        dueThrow(ISE, () -> x.include(1));
        due(3, x.signature());
        due(30, x.specs(3));
        due(30, x.include(3));
        due(4, x.signature());
        due(true, x.alike(3, 4));
    }

    // "or if for one of them a spec of the kind and name is there": the first or the last one.
    static void promise14SameName() {
        ModuleLoft x = new ModuleLoft();
        x.specType(0, A);
        x.specType(1, A);
        x.specValue(2, 0, PLAIN);
        x.signature();
        due(1, x.specType(0, A));
        dueThrow(ISE, () -> x.include(0));
        x.signature();
        due(1, x.specValue(2, 0, PLAIN));
        dueThrow(ISE, () -> x.include(0));
        x.signature();
        x.specType(2, A);
        x.specValue(0, 0, PLAIN);
        due(3, x.specValue(1, 0, PLAIN));
        due(6, x.include(0));
    }

    // "at most 60 specs, those of its parts .. counted": as many as there is room for, and one more.
    static void promise14Sixty() {
        ModuleLoft x = nearlyFull();
        due(3, x.signature());
        due(1, x.specType(0, A));
        due(3, x.include(3));
        due(4, x.signature());
        due(3, x.include(4));
        dueThrow(ISE, () -> x.specType(1, A));
        due(5, x.signature());
        due(1, x.specType(1, A));
        due(2, x.specType(2, A));
        dueThrow(ISE, () -> x.include(3));
        due(6, x.signature());
        due(1, x.specPart(5, 0));
        dueThrow(ISE, () -> x.include(4));
    }

    // "A call that throws an exception changes nothing": none of the specs is added, though others would have gone.
    static void promise14Refused() {
        dueRefused(IOOBE, SignatureBoundaryTests::drafts, x -> x.include(1));
        dueRefused(IOOBE, SignatureBoundaryTests::drafts, x -> x.include(-1));
        Making lastIsThere = () -> {
            ModuleLoft x = counter();
            x.specValue(0, 0, PLAIN);
            return x;
        };
        dueRefused(ISE, lastIsThere, x -> x.include(0));
        Making noRoom = () -> {
            ModuleLoft x = nearlyFull();
            x.signature();
            x.specType(0, A);
            x.specType(1, A);
            return x;
        };
        dueRefused(ISE, noRoom, x -> x.include(3));
    }

    // ---- promise 15

    // "Makes the draft a signature; it is empty then."
    static void promise15EmptyThen() {
        ModuleLoft x = new ModuleLoft();
        due(0, x.signature());
        due(0, x.specs(0));
        x.specType(0, A);
        due(1, x.signature());
        due(1, x.specs(1));
        due(2, x.signature());
        due(0, x.specs(2));
        due(1, x.specType(0, A));
    }

    // "it is empty then": what was counted for the 60 is gone, too.
    static void promise15RoomThen() {
        ModuleLoft x = full();
        due(3, x.signature());
        due(1, x.specPart(0, 1));
        due(2, x.specPart(1, 1));
        dueThrow(ISE, () -> x.specType(0, A));
    }

    // "Signatures are numbered from 0, at most 20": the next is "more than told".
    static void promise15LastSignature() {
        ModuleLoft x = new ModuleLoft();
        for (int number = 0; number < 20; number++) {
            due(number, x.signature());
        }
        dueThrow(ISE, x::signature);
        dueThrow(ISE, x::signature);
        due(0, x.specs(19));
        dueThrow(IOOBE, () -> x.specs(20));
    }

    // "and never changed": not by what is added to the draft later.
    static void promise15NeverChanged() {
        ModuleLoft x = counter();
        x.specType(5, A);
        x.include(0);
        x.signature();
        x.specType(0, 1);
        x.signature();
        due(2, x.specs(0));
        due(0, x.match(0, 0));
        due(15, x.match(0, 1));
        due(20, x.match(0, 2));
    }

    // "A call that throws an exception changes nothing": the draft is not empty then.
    static void promise15Refused() {
        Making noRoom = () -> {
            ModuleLoft x = counter();
            fillSignatures(x, 20);
            x.specType(0, A);
            x.specValue(3, -1, 0);
            x.specPart(9, 19);
            return x;
        };
        dueRefused(ISE, noRoom, ModuleLoft::signature);
        ModuleLoft x = noRoom.make();
        dueThrow(ISE, x::signature);
        dueThrow(ISE, () -> x.specType(0, A));
        due(4, x.specType(1, -1));
    }

    // ---- promise 16

    // "signature: a signature": the first and the last are, those beside them are not.
    static void promise16Signatures() {
        ModuleLoft x = new ModuleLoft();
        dueThrow(IOOBE, () -> x.with(0, 0, 0, false));
        x.specType(0, A);
        due(0, x.signature());
        dueThrow(IOOBE, () -> x.with(1, 0, 0, false));
        fillSignatures(x, 18);
        x.specType(0, A);
        due(18, x.signature());
        for (int signature : new int[] {-1, 19, LEAST, GREATEST}) {
            dueThrow(IOOBE, () -> x.with(signature, 0, 0, false));
        }
        due(19, x.with(18, 0, 0, false));
    }

    // "name: the name of an abstract type of it": what is no name is the name of none.
    static void promise16Names() {
        ModuleLoft x = counter();
        x.specType(0, A);
        x.specType(9, A);
        x.specType(5, -1);
        x.specType(6, 0);
        x.specValue(7, 0, PLAIN);
        x.specPart(8, 0);
        x.signature();
        for (int name : new int[] {-1, 1, 5, 6, 7, 8, 10, LEAST, GREATEST}) {
            dueThrow(IOOBE, () -> x.with(1, name, 0, false));
            dueThrow(IOOBE, () -> x.with(1, name, 0, true));
        }
        due(2, x.with(1, 0, 0, false));
        due(3, x.with(1, 9, 0, true));
        dueThrow(IOOBE, () -> x.with(2, 0, 0, false));
        dueThrow(IOOBE, () -> x.with(3, 9, 0, true));
        due(4, x.with(2, 9, 0, false));
    }

    // "type: a type": from INT to the last one; a type name is none.
    static void promise16Types() {
        ModuleLoft x = counter();
        for (int type : new int[] {-1, -2, 3, ModuleLoft.ABSTRACT, LEAST, GREATEST}) {
            dueThrow(IOOBE, () -> x.with(0, 0, type, false));
            dueThrow(IOOBE, () -> x.with(0, 0, type, true));
        }
        due(1, x.with(0, 0, 0, false));
        due(2, x.with(0, 0, 2, true));
        fillTypes(x, 200);
        due(3, x.with(0, 0, 199, false));
        dueThrow(IOOBE, () -> x.with(0, 0, 200, false));
    }

    // "in which an abstract type is told (all that tells it by its name still does)"
    static void promise16Told() {
        ModuleLoft x = new ModuleLoft();
        x.specType(9, A);
        x.specType(0, -10);
        x.specType(1, A);
        x.specValue(0, -10, -10);
        x.signature();
        due(1, x.with(0, 9, 1, false));
        due(4, x.specs(1));
        x.specType(9, 1);
        x.specType(0, -10);
        x.specType(1, A);
        x.specValue(0, -10, -10);
        due(2, x.signature());
        due(true, x.alike(1, 2));
    }

    // "or taken out (all that told it tells the type then)": TYPEs, and VALUEs on either side, but no one else.
    static void promise16Taken() {
        ModuleLoft x = new ModuleLoft();
        x.specType(1, A);
        x.specType(0, A);
        x.specType(2, -1);
        x.specType(3, -3);
        x.specValue(0, -1, PLAIN);
        x.specValue(1, -1, -1);
        x.specValue(2, 0, -1);
        x.specValue(3, -1, -2);
        x.specValue(4, -2, -3);
        x.signature();
        due(1, x.with(0, 0, 1, true));
        due(8, x.specs(1));
        x.specType(1, A);
        x.specType(2, 1);
        x.specType(3, -3);
        x.specValue(0, 1, PLAIN);
        x.specValue(1, 1, 1);
        x.specValue(2, 0, 1);
        x.specValue(3, 1, -2);
        x.specValue(4, -2, -3);
        due(2, x.signature());
        due(true, x.alike(1, 2));
    }

    // The same, for the last name, where others tell by other names.
    static void promise16TakenLastName() {
        ModuleLoft x = new ModuleLoft();
        x.specType(8, A);
        x.specType(9, A);
        x.specType(0, -10);
        x.specType(1, -9);
        x.specValue(9, -10, PLAIN);
        x.specValue(8, -9, -10);
        x.signature();
        due(1, x.with(0, 9, 0, true));
        x.specType(8, A);
        x.specType(0, 0);
        x.specType(1, -9);
        x.specValue(9, 0, PLAIN);
        x.specValue(8, -9, 0);
        due(2, x.signature());
        due(true, x.alike(1, 2));
    }

    // "or taken out": where it is all that there is, the new one is empty.
    static void promise16TakenAll() {
        ModuleLoft x = new ModuleLoft();
        x.signature();
        x.specType(9, A);
        x.signature();
        due(2, x.with(1, 9, 0, true));
        due(0, x.specs(2));
        due(true, x.alike(0, 2));
        due(1, x.specs(1));
    }

    // "an abstract type of it": those of its parts are not, and stay as they are.
    static void promise16NotOfParts() {
        ModuleLoft x = counter();
        x.specPart(0, 0);
        x.signature();
        dueThrow(IOOBE, () -> x.with(1, 0, 0, true));
        x.specPart(0, 0);
        x.specType(0, A);
        x.signature();
        due(3, x.with(2, 0, 1, true));
        due(true, x.alike(3, 1));
    }

    // "Makes a signature like another one": that one is "never changed".
    static void promise16NeverChanged() {
        ModuleLoft x = counter();
        x.include(0);
        x.signature();
        x.with(0, 0, 1, false);
        x.with(0, 0, 1, true);
        due(true, x.alike(0, 1));
        due(0, x.match(0, 0));
        due(20, x.match(0, 2));
        due(40, x.match(0, 3));
    }

    // "Signatures are numbered from 0, at most 20": the next is "more than told".
    static void promise16LastSignature() {
        ModuleLoft x = counter();
        fillSignatures(x, 19);
        due(19, x.with(0, 0, 0, true));
        dueThrow(ISE, () -> x.with(0, 0, 0, true));
        dueThrow(ISE, () -> x.with(0, 0, 0, false));
        dueThrow(IOOBE, () -> x.specs(20));
        due(1, x.specs(19));
    }

    // "there are at most 60 specs": one that has so many can be told, and what is taken out leaves room.
    static void promise16Sixty() {
        ModuleLoft x = full();
        due(3, x.signature());
        due(4, x.with(3, 9, 0, false));
        due(5, x.with(3, 9, 0, true));
        due(3, x.specs(4));
        due(2, x.specs(5));
        dueThrow(ISE, () -> x.specPart(0, 4));
        due(1, x.specPart(0, 5));
        dueThrow(ISE, () -> x.specType(0, A));
        due(6, x.signature());
        due(3, x.include(4));
        dueThrow(ISE, () -> x.specType(0, A));
        due(7, x.signature());
        due(2, x.include(5));
        due(3, x.specType(0, A));
        dueThrow(ISE, () -> x.specType(1, A));
    }

    // "Makes a signature": the draft stays as it is.
    static void promise16DraftStays() {
        ModuleLoft x = counter();
        x.specType(7, A);
        x.with(0, 0, 1, true);
        due(2, x.specType(8, -8));
        due(2, x.signature());
        due(2, x.specs(2));
    }

    // "If several apply, IndexOutOfBoundsException goes first"
    static void promise16FirstException() {
        ModuleLoft x = counter();
        fillSignatures(x, 20);
        dueThrow(IOOBE, () -> x.with(20, 0, 0, false));
        dueThrow(IOOBE, () -> x.with(0, 1, 0, false));
        dueThrow(IOOBE, () -> x.with(0, 10, 0, false));
        dueThrow(IOOBE, () -> x.with(0, 0, 3, false));
        dueThrow(IOOBE, () -> x.with(1, 0, 0, false));
        dueThrow(ISE, () -> x.with(0, 0, 0, false));
    }

    // "A call that throws an exception changes nothing."
    static void promise16Refused() {
        dueRefused(IOOBE, SignatureBoundaryTests::drafts, x -> x.with(1, 0, 0, true));
        dueRefused(IOOBE, SignatureBoundaryTests::drafts, x -> x.with(0, 1, 0, true));
        dueRefused(IOOBE, SignatureBoundaryTests::drafts, x -> x.with(0, 0, 3, true));
        Making noRoom = () -> {
            ModuleLoft x = counter();
            fillSignatures(x, 20);
            x.specType(5, A);
            return x;
        };
        dueRefused(ISE, noRoom, x -> x.with(0, 0, 1, true));
        dueRefused(ISE, noRoom, x -> x.with(0, 0, 1, false));
    }

    // ---- promise 17

    // "(How many specs there are is told without those of parts.)": from none to all names of all kinds.
    static void promise17HowMany() {
        ModuleLoft x = full();
        x.signature();
        due(0, x.specs(0));
        due(29, x.specs(1));
        due(3, x.specs(3));
        x.include(1);
        x.specPart(9, 1);
        x.signature();
        due(30, x.specs(4));
    }

    // "signature: a signature": the first and the last of 20 are, those beside them are not.
    static void promise17Signatures() {
        ModuleLoft x = new ModuleLoft();
        dueThrow(IOOBE, () -> x.specs(0));
        x.signature();
        dueThrow(IOOBE, () -> x.specs(1));
        fillSignatures(x, 19);
        x.specType(0, A);
        x.signature();
        due(0, x.specs(0));
        due(1, x.specs(19));
        for (int signature : new int[] {-1, 20, LEAST, GREATEST}) {
            dueThrow(IOOBE, () -> x.specs(signature));
        }
    }

    // "A call that throws an exception changes nothing": the draft is no signature before it is made one.
    static void promise17Refused() {
        dueRefused(IOOBE, SignatureBoundaryTests::drafts, x -> x.specs(1));
        dueRefused(IOOBE, SignatureBoundaryTests::drafts, x -> x.specs(-1));
    }

    public static void main(String[] args) {
        runAll(SignatureBoundaryTests.class);
    }
}
