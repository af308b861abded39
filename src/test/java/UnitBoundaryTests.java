/**
 * The boundary cases of promises 29 to 32: units. The comment above each test is the sentence of the document that it
 * holds.
 */
public final class UnitBoundaryTests extends Checks {

    // ---- states

    /** Signatures 0 and 1 are alike, 2 is empty, and 3 has a PART with signature 0. */
    private static ModuleLoft faces() {
        ModuleLoft x = counter();
        x.include(0);
        x.signature();
        x.signature();
        x.specPart(0, 0);
        x.signature();
        return x;
    }

    /** As faces; unit 0 is not inlined and 1 is, 2 uses both, and all are built. */
    private static ModuleLoft built() {
        ModuleLoft x = faces();
        x.unit(0, 0, false);
        x.unit(0, 0, true);
        x.unit(0, 3, false);
        x.build();
        return x;
    }

    /** As faces, and there are eight units, each of which uses all that are ahead of it. */
    private static ModuleLoft eightUnits(boolean isInlined) {
        ModuleLoft x = faces();
        for (int number = 0; number < 8; number++) {
            x.unit(0, (1 << number) - 1, isInlined);
        }
        return x;
    }

    // ---- promise 29

    // "face: a signature": the first and the last of 20 are, those beside them are not.
    static void promise29Faces() {
        ModuleLoft x = counter();
        for (int face : new int[] {-1, 1, 19, 20, LEAST, GREATEST}) {
            dueThrow(IOOBE, () -> x.unit(face, 0, false));
        }
        fillSignatures(x, 20);
        due(0, x.unit(0, 0, false));
        due(1, x.unit(19, 0, true));
        dueThrow(IOOBE, () -> x.unit(20, 0, false));
    }

    // "Units are numbered from 0, at most 8": the next is "more than told".
    static void promise29LastUnit() {
        ModuleLoft x = counter();
        for (int number = 0; number < 8; number++) {
            due(number, x.unit(0, 0, number % 2 == 0));
        }
        dueThrow(ISE, () -> x.unit(0, 0, false));
        dueThrow(ISE, () -> x.unit(0, 255, true));
        due(255, x.stale());
        dueThrow(IOOBE, () -> x.change(8, -1));
    }

    // "uses units that came ahead of it": none, all of these, but not itself, nor one that is not there.
    static void promise29Uses() {
        ModuleLoft x = counter();
        for (int number = 0; number < 8; number++) {
            int itself = 1 << number;
            for (int uses : new int[] {itself, 2 * itself, 2 * itself - 1, 256, 1 << 30, -1, LEAST, GREATEST}) {
                dueThrow(IOOBE, () -> x.unit(0, uses, false));
            }
            due(number, x.unit(0, itself - 1, false));
        }
        dueThrow(IOOBE, () -> x.unit(0, 256, false));
        ModuleLoft y = counter();
        due(0, y.unit(0, 0, false));
        due(1, y.unit(0, 1, false));
        due(2, y.unit(0, 2, false));
    }

    // "if it was never built": a new unit is stale, whatever it uses.
    static void promise29NewOneIsStale() {
        ModuleLoft x = counter();
        x.unit(0, 0, false);
        due(1, x.stale());
        x.build();
        x.unit(0, 1, true);
        due(2, x.stale());
    }

    // "If several apply, IndexOutOfBoundsException goes first"
    static void promise29FirstException() {
        ModuleLoft x = eightUnits(false);
        dueThrow(IOOBE, () -> x.unit(4, 0, false));
        dueThrow(IOOBE, () -> x.unit(-1, 0, false));
        dueThrow(IOOBE, () -> x.unit(0, 256, false));
        dueThrow(IOOBE, () -> x.unit(0, -1, false));
        dueThrow(ISE, () -> x.unit(0, 128, false));
    }

    // "A call that throws an exception changes nothing."
    static void promise29Refused() {
        dueRefused(IOOBE, UnitBoundaryTests::built, x -> x.unit(4, 0, false));
        dueRefused(IOOBE, UnitBoundaryTests::built, x -> x.unit(0, 8, false));
        dueRefused(IOOBE, UnitBoundaryTests::built, x -> x.unit(0, -1, true));
        dueRefused(ISE, () -> eightUnits(true), x -> x.unit(0, 1, false));
    }

    // ---- promise 30

    // "unit: a unit": the first and the last of 8 are, those beside them are not.
    static void promise30Units() {
        ModuleLoft x = eightUnits(false);
        for (int unit : new int[] {-1, 8, 31, 32, LEAST, GREATEST}) {
            dueThrow(IOOBE, () -> x.change(unit, -1));
            dueThrow(IOOBE, () -> x.change(unit, 0));
        }
        due(1, x.change(0, -1));
        due(1, x.change(7, 0));
        ModuleLoft y = counter();
        dueThrow(IOOBE, () -> y.change(0, 0));
        y.unit(0, 0, false);
        dueThrow(IOOBE, () -> y.change(1, 0));
    }

    // "face: a signature, or -1 to keep the one that it has"
    static void promise30Faces() {
        ModuleLoft x = built();
        for (int face : new int[] {-2, 4, 19, 20, ModuleLoft.ABSTRACT, LEAST, GREATEST}) {
            dueThrow(IOOBE, () -> x.change(0, face));
        }
        fillSignatures(x, 20);
        due(1, x.change(0, -1));
        due(1, x.stale());
        due(2, x.change(0, 0));
        due(1, x.stale());
        due(3, x.change(0, 19));
        due(5, x.stale());
        due(4, x.change(0, -1));
        due(5, x.stale());
        dueThrow(IOOBE, () -> x.change(0, 20));
    }

    // "Returns how often it was changed": from 1, each unit by itself, also where the face stays; building is no
    // change.
    static void promise30HowOften() {
        ModuleLoft x = built();
        for (int often = 1; often <= 100; often++) {
            due(often, x.change(0, often % 3 - 1));
        }
        due(1, x.change(1, -1));
        x.build();
        due(101, x.change(0, -1));
        due(2, x.change(1, 1));
        due(1, x.change(2, 0));
    }

    // "A call that throws an exception changes nothing": it is not counted, and the face stays.
    static void promise30Refused() {
        dueRefused(IOOBE, UnitBoundaryTests::built, x -> x.change(3, 0));
        dueRefused(IOOBE, UnitBoundaryTests::built, x -> x.change(-1, -1));
        dueRefused(IOOBE, UnitBoundaryTests::built, x -> x.change(0, 4));
        dueRefused(IOOBE, UnitBoundaryTests::built, x -> x.change(1, -2));
        ModuleLoft x = built();
        dueThrow(IOOBE, () -> x.change(1, 4));
        due(0, x.stale());
        due(1, x.change(1, -1));
    }

    // ---- promise 31

    // "Returns the units that are stale, as a set": none, or all eight.
    static void promise31NoneAndAll() {
        ModuleLoft x = faces();
        due(0, x.stale());
        ModuleLoft y = eightUnits(true);
        due(255, y.stale());
        due(255, y.stale());
        y.build();
        due(0, y.stale());
    }

    // "It is stale if it was never built, or changed since": each unit by itself, the first and the last.
    static void promise31ChangedSince() {
        ModuleLoft x = eightUnits(false);
        x.build();
        for (int unit = 0; unit < 8; unit++) {
            x.change(unit, unit % 2 - 1);
            due(1 << unit, x.stale());
            x.build();
            due(0, x.stale());
        }
    }

    // "or a face that it uses is not like the noted one": another number of what is alike is none, back again is
    // none.
    static void promise31Face() {
        ModuleLoft x = built();
        x.change(0, 1);
        due(1, x.stale());
        x.change(0, 2);
        due(5, x.stale());
        x.change(0, 3);
        due(5, x.stale());
        x.change(0, 1);
        due(1, x.stale());
        x.change(0, 0);
        due(1, x.stale());
    }

    // "or an inlined one that it uses was changed since": the face may be the same.
    static void promise31Inlined() {
        ModuleLoft x = built();
        x.change(1, -1);
        due(6, x.stale());
        x.change(1, 0);
        due(6, x.stale());
        x.build();
        due(0, x.stale());
        x.change(1, 1);
        due(6, x.stale());
    }

    // "all that it uses": not what these use in turn, and not those that use it.
    static void promise31UsedOnly() {
        ModuleLoft x = faces();
        x.unit(0, 0, true);
        x.unit(0, 1, true);
        x.unit(0, 2, true);
        x.unit(0, 4, true);
        x.build();
        x.change(1, 2);
        due(2 + 4, x.stale());
        x.build();
        x.change(3, 2);
        due(8, x.stale());
        x.build();
        x.change(0, -1);
        due(1 + 2, x.stale());
    }

    // The same, where the first of eight is used by all, and where the last is used by none.
    static void promise31FirstAndLast() {
        ModuleLoft x = eightUnits(true);
        x.build();
        x.change(7, 2);
        due(128, x.stale());
        x.build();
        x.change(6, -1);
        due(64 + 128, x.stale());
        x.build();
        x.change(0, -1);
        due(255, x.stale());
        ModuleLoft y = eightUnits(false);
        y.build();
        y.change(0, -1);
        due(1, y.stale());
        y.change(0, 2);
        due(255, y.stale());
    }

    // "When it is built, it notes the faces of all that it uses": those of then, not those of when it was made.
    static void promise31NotedWhenBuilt() {
        ModuleLoft x = faces();
        x.unit(0, 0, false);
        x.unit(0, 1, false);
        x.change(0, 2);
        due(2, x.build());
        due(0, x.stale());
        x.change(0, 0);
        due(3, x.stale());
        x.change(0, -1);
        due(2, x.build());
        x.change(0, 1);
        due(1, x.stale());
    }

    // "is not like the noted one": faces with parts, one with the other's alike signature.
    static void promise31FaceWithParts() {
        ModuleLoft x = faces();
        x.specPart(0, 1);
        due(4, x.signature());
        x.specPart(0, 2);
        due(5, x.signature());
        x.unit(3, 0, false);
        x.unit(0, 1, false);
        x.build();
        x.change(0, 4);
        due(1, x.stale());
        x.change(0, 5);
        due(3, x.stale());
    }

    // ---- promise 32

    // "Builds all units that are stale .. returns how many": none, one, or all eight.
    static void promise32HowMany() {
        ModuleLoft x = faces();
        due(0, x.build());
        due(0, x.build());
        ModuleLoft y = eightUnits(true);
        due(8, y.build());
        due(0, y.build());
        y.change(7, -1);
        due(1, y.build());
        y.change(0, -1);
        due(8, y.build());
        due(0, y.stale());
    }

    // "all units that are stale": those that are not keep what they have noted, but that is like what there is.
    static void promise32StaleOnly() {
        ModuleLoft x = built();
        x.change(0, 1);
        due(1, x.build());
        x.change(0, 0);
        due(1, x.build());
        x.change(0, 2);
        due(2, x.build());
        due(0, x.stale());
        x.change(0, 2);
        due(1, x.stale());
    }

    // "by their numbers": after it none is stale, though each uses all ahead of it.
    static void promise32ByNumbers() {
        ModuleLoft x = eightUnits(true);
        for (int unit = 0; unit < 8; unit++) {
            x.change(unit, 2);
        }
        due(8, x.build());
        due(0, x.stale());
        due(0, x.build());
        x.change(3, 0);
        due(5, x.build());
        due(0, x.stale());
    }

    public static void main(String[] args) {
        runAll(UnitBoundaryTests.class);
    }
}
