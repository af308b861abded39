/** Tests of each promise: ordinary calls, the edges that the document names, and wrong arguments. */
public final class PromiseTests extends Checks {
    static void promise1() {
        ModuleLoft x = new ModuleLoft();
        due(0, x.type(0, 0));
        due(0, x.type(1, 0));
        dueThrow(IOOBE, () -> x.type(2, 0));
        dueThrow(IOOBE, () -> x.items(0));
        dueThrow(IOOBE, () -> x.specs(0));
        dueThrow(IOOBE, () -> x.unpack(0));
        dueThrow(IOOBE, () -> x.change(0, -1));
        due(0, x.stale());
        due(0, x.build());
        due(0, x.structure());
        due(0, x.items(0));
        due(0, x.signature());
        due(0, x.specs(0));
        due(0, x.functor(0, -1, false));
        due(1, x.apply(0, 0));
        due(0, x.items(1));
        due(-1, ModuleLoft.NONE);
        due(0, ModuleLoft.INT);
        due(1, ModuleLoft.BOOL);
        due(-100, ModuleLoft.ABSTRACT);
        due(-100, ModuleLoft.PLAIN);
    }

    static void promise2() {
        ModuleLoft x = new ModuleLoft();
        due(2, x.arrow(0, 1));
        due(3, x.arrow(1, 0));
        due(2, x.arrow(0, 1));
        due(4, x.arrow(2, 2));
        due(5, x.addType(0, -1));
        due(6, x.arrow(5, 5));
        due(6, x.arrow(5, 5));
        dueThrow(IOOBE, () -> x.arrow(7, 0));
        dueThrow(IOOBE, () -> x.arrow(0, 7));
        dueThrow(IOOBE, () -> x.arrow(-1, 0));
        dueThrow(IOOBE, () -> x.arrow(0, -1));
        dueThrow(IOOBE, () -> x.arrow(Integer.MAX_VALUE, Integer.MIN_VALUE));
        dueTypes(7, x);
        fillTypes(x, 199);
        due(199, x.arrow(0, 0));
        dueThrow(ISE, () -> x.arrow(1, 1));
        dueThrow(IOOBE, () -> x.arrow(200, 1));
        due(199, x.arrow(0, 0));
        due(2, x.arrow(0, 1));
        dueTypes(200, x);
    }

    static void promise3() {
        ModuleLoft x = new ModuleLoft();
        x.addType(0, -1);
        x.arrow(2, 1);
        int[][] want = {{0, -1, -1}, {0, -1, -1}, {1, -1, -1}, {2, 2, 1}};
        for (int type = 0; type < 4; type++) {
            for (int what = 0; what < 3; what++) {
                due(want[type][what], x.type(type, what));
            }
        }
        dueThrow(IOOBE, () -> x.type(4, 0));
        dueThrow(IOOBE, () -> x.type(-1, 0));
        dueThrow(IAE, () -> x.type(0, 3));
        dueThrow(IAE, () -> x.type(0, -1));
        dueThrow(IOOBE, () -> x.type(4, 3));
    }

    static void promise4() {
        ModuleLoft x = new ModuleLoft();
        due(0, x.addType(0, 0));
        due(2, x.addType(9, -1));
        due(3, x.addType(0, -1));
        dueThrow(IOOBE, () -> x.addType(0, 4));
        dueThrow(IOOBE, () -> x.addType(0, -2));
        dueThrow(IOOBE, () -> x.addType(10, 4));
        dueThrow(IAE, () -> x.addType(10, 0));
        dueThrow(IAE, () -> x.addType(-1, -1));
        dueTypes(4, x);
        x.structure();
        due(2, x.items(0));
        due(0, x.item(0, TYPE, 9, 1));
        due(1, x.item(0, TYPE, 0, 1));
        due(3, x.item(0, TYPE, 0, 0));
        fillTypes(x, 200);
        dueThrow(ISE, () -> x.addType(0, -1));
        dueThrow(IAE, () -> x.addType(10, -1));
        due(1, x.addType(0, 1));
        due(1, x.structure());
        due(2, x.items(1));
    }

    static void promise5() {
        ModuleLoft x = new ModuleLoft();
        due(false, x.addValue(0, 0, 10000));
        due(false, x.addValue(9, 1, -10000));
        due(true, x.addValue(0, 1, 7));
        due(2, x.arrow(0, 0));
        due(false, x.addValue(5, 2, 0));
        dueThrow(IOOBE, () -> x.addValue(0, 3, 0));
        dueThrow(IOOBE, () -> x.addValue(0, -1, 0));
        dueThrow(IOOBE, () -> x.addValue(10, 3, 20000));
        dueThrow(IAE, () -> x.addValue(10, 0, 0));
        dueThrow(IAE, () -> x.addValue(-1, 0, 0));
        dueThrow(IAE, () -> x.addValue(0, 0, 10001));
        dueThrow(IAE, () -> x.addValue(0, 0, -10001));
        x.structure();
        due(3, x.items(0));
        due(0, x.item(0, VALUE, 9, 1));
        due(-10000, x.item(0, VALUE, 9, 2));
        due(1, x.item(0, VALUE, 0, 1));
        due(7, x.item(0, VALUE, 0, 2));
        due(2, x.item(0, VALUE, 5, 0));
    }

    static void promise6() {
        ModuleLoft x = new ModuleLoft();
        dueThrow(IOOBE, () -> x.addPart(0, 0));
        x.structure();
        due(false, x.addPart(0, 0));
        due(false, x.addValue(0, 0, 1));
        x.addType(0, 1);
        due(true, x.addPart(0, 0));
        dueThrow(IOOBE, () -> x.addPart(0, 1));
        dueThrow(IOOBE, () -> x.addPart(0, -1));
        dueThrow(IOOBE, () -> x.addPart(10, 1));
        dueThrow(IAE, () -> x.addPart(10, 0));
        dueThrow(IAE, () -> x.addPart(-1, 0));
        due(1, x.structure());
        due(3, x.items(1));
        due(2, x.item(1, PART, 0, 1));
        due(0, x.item(1, PART, 0, 0));
        due(0, x.item(1, VALUE, 0, 1));
        due(1, x.item(1, TYPE, 0, 1));
    }

    static void promise7() {
        ModuleLoft x = new ModuleLoft();
        dueThrow(IOOBE, () -> x.open(0));
        x.structure();
        x.addType(3, 1);
        x.addValue(3, 0, 44);
        x.addPart(3, 0);
        x.structure();
        due(0, x.open(0));
        due(0, x.open(1));
        due(3, x.open(1));
        x.addValue(3, 1, 2);
        x.addValue(1, 1, 2);
        x.addPart(4, 0);
        due(3, x.open(1));
        dueThrow(IOOBE, () -> x.open(2));
        dueThrow(IOOBE, () -> x.open(-1));
        x.structure();
        due(5, x.items(2));
        due(0, x.item(2, VALUE, 1, 1));
        due(1, x.item(2, PART, 4, 1));
        due(2, x.item(2, TYPE, 3, 1));
        due(3, x.item(2, VALUE, 3, 1));
        due(4, x.item(2, PART, 3, 1));
        due(44, x.item(2, VALUE, 3, 2));
        due(1, x.item(2, TYPE, 3, 0));
        due(3, x.items(1));
    }

    static void promise8() {
        ModuleLoft x = new ModuleLoft();
        x.addValue(1, 0, 2);
        due(0, x.structure());
        due(1, x.structure());
        due(1, x.items(0));
        due(0, x.items(1));
        fillStructures(x, 30);
        x.addValue(4, 0, 2);
        dueThrow(ISE, x::structure);
        dueThrow(IOOBE, () -> x.items(30));
        due(0, x.items(29));
        due(true, x.addValue(4, 0, 2));
    }

    /** A draft has room for all names of all kinds. */
    static void promise8Wide() {
        ModuleLoft x = new ModuleLoft();
        x.structure();
        for (int name = 0; name < 10; name++) {
            x.addType(name, name % 2);
            due(false, x.addValue(name, name % 2, name));
            due(false, x.addPart(name, 0));
        }
        due(1, x.structure());
        due(30, x.items(1));
        due(0, x.open(1));
        due(30, x.open(1));
        due(2, x.structure());
        due(30, x.items(2));
        for (int name = 0; name < 10; name++) {
            due(name * 3, x.item(2, TYPE, name, 1));
            due(name % 2, x.item(2, TYPE, name, 0));
            due(name * 3 + 1, x.item(2, VALUE, name, 1));
            due(name, x.item(2, VALUE, name, 2));
            due(name * 3 + 2, x.item(2, PART, name, 1));
        }
    }

    static void promise9() {
        ModuleLoft x = new ModuleLoft();
        x.structure();
        x.addType(2, 1);
        x.addValue(3, 0, -9);
        x.addPart(4, 0);
        x.structure();
        int[][] want = {{1, 0, 0}, {0, 1, -9}, {0, 2, 0}};
        for (int kind = 0; kind < 3; kind++) {
            for (int what = 0; what < 3; what++) {
                due(want[kind][what], x.item(1, kind, 2 + kind, what));
            }
        }
        dueThrow(IOOBE, () -> x.item(2, 0, 2, 0));
        dueThrow(IOOBE, () -> x.item(-1, 0, 2, 0));
        dueThrow(IOOBE, () -> x.item(2, 3, 2, 3));
        dueThrow(IAE, () -> x.item(1, 3, 2, 0));
        dueThrow(IAE, () -> x.item(1, -1, 2, 0));
        dueThrow(IAE, () -> x.item(1, 3, 77, 0));
        dueThrow(IOOBE, () -> x.item(1, 0, 3, 0));
        dueThrow(IOOBE, () -> x.item(1, 0, 10, 0));
        dueThrow(IOOBE, () -> x.item(1, 0, -1, 0));
        dueThrow(IOOBE, () -> x.item(1, 1, 2, 9));
        dueThrow(IAE, () -> x.item(1, 0, 2, 3));
        dueThrow(IAE, () -> x.item(1, 0, 2, -1));
    }

    static void promise10() {
        ModuleLoft x = counter();
        due(2, x.items(0));
        dueThrow(IOOBE, () -> x.items(1));
        dueThrow(IOOBE, () -> x.items(-1));
        x.addPart(0, 0);
        x.structure();
        due(1, x.items(1));
    }

    static void promise11() {
        ModuleLoft x = new ModuleLoft();
        due(1, x.specType(0, A));
        due(2, x.specType(1, -1));
        due(3, x.specType(2, -2));
        due(4, x.specType(9, 1));
        dueThrow(IOOBE, () -> x.specType(3, -4));
        dueThrow(IOOBE, () -> x.specType(3, 2));
        dueThrow(IOOBE, () -> x.specType(3, -11));
        dueThrow(IOOBE, () -> x.specType(3, -99));
        dueThrow(IOOBE, () -> x.specType(3, -101));
        dueThrow(IOOBE, () -> x.specType(3, Integer.MIN_VALUE));
        dueThrow(IOOBE, () -> x.specType(10, 2));
        dueThrow(IOOBE, () -> x.specType(0, 2));
        dueThrow(IAE, () -> x.specType(10, A));
        dueThrow(IAE, () -> x.specType(-1, 0));
        dueThrow(ISE, () -> x.specType(0, A));
        dueThrow(ISE, () -> x.specType(0, -1));
        due(5, x.specType(3, -10));
        due(0, x.signature());
        due(5, x.specs(0));
        dueThrow(IOOBE, () -> x.specType(3, -10));
        due(1, x.specType(3, A));
    }

    /** Signature 0 is empty, 1 has 29 specs, and 2 has a part with that, so 30. */
    private static ModuleLoft wideSignatures() {
        ModuleLoft x = new ModuleLoft();
        x.signature();
        for (int name = 0; name < 10; name++) {
            x.specType(name, A);
            x.specValue(name, -1 - name, PLAIN);
            if (name < 9) {
                x.specPart(name, 0);
            }
        }
        x.signature();
        x.specPart(0, 1);
        x.signature();
        return x;
    }

    /** Specs of parts count as often as they stand: 60 are possible, 61 are not. */
    static void promise11Limit() {
        ModuleLoft x = wideSignatures();
        due(29, x.specs(1));
        due(1, x.specs(2));
        due(1, x.specPart(0, 1));
        due(2, x.specPart(1, 1));
        dueThrow(ISE, () -> x.specType(0, A));
        dueThrow(ISE, () -> x.specValue(0, 0, PLAIN));
        dueThrow(ISE, () -> x.specPart(2, 0));
        dueThrow(ISE, () -> x.include(1));
        dueThrow(IOOBE, () -> x.specType(0, 5));
        due(2, x.include(0));
        due(3, x.signature());
        due(2, x.specs(3));
        dueThrow(ISE, () -> x.specPart(0, 3));
        due(2, x.include(3));
        due(4, x.signature());
        due(1, x.specPart(0, 2));
        due(2, x.specType(0, A));
        dueThrow(ISE, () -> x.specPart(1, 1));
        for (int name = 0; name < 10; name++) {
            due(3 + name, x.specValue(name, 0, 0));
        }
        for (int name = 1; name < 10; name++) {
            due(12 + name, x.specType(name, -1));
        }
        for (int name = 1; name < 9; name++) {
            due(21 + name, x.specPart(name, 0));
        }
        due(30, x.specPart(9, 0));
        due(5, x.signature());
        dueThrow(ISE, () -> x.specPart(9, 5));
        due(30, x.include(5));
        dueThrow(ISE, () -> x.specPart(9, 0));
    }

    static void promise12() {
        ModuleLoft x = new ModuleLoft();
        x.specType(4, A);
        due(2, x.specValue(0, -5, PLAIN));
        due(3, x.specValue(1, -5, 1));
        due(4, x.specValue(9, 0, -5));
        due(5, x.specValue(2, 0, PLAIN));
        dueThrow(IOOBE, () -> x.specValue(3, A, PLAIN));
        dueThrow(IOOBE, () -> x.specValue(3, -1, PLAIN));
        dueThrow(IOOBE, () -> x.specValue(3, 2, PLAIN));
        dueThrow(IOOBE, () -> x.specValue(3, 0, -1));
        dueThrow(IOOBE, () -> x.specValue(3, 0, 2));
        dueThrow(IOOBE, () -> x.specValue(3, 0, Integer.MIN_VALUE));
        dueThrow(IOOBE, () -> x.specValue(10, 0, 2));
        dueThrow(IOOBE, () -> x.specValue(0, 2, PLAIN));
        dueThrow(IAE, () -> x.specValue(10, 0, PLAIN));
        dueThrow(IAE, () -> x.specValue(-1, 0, PLAIN));
        dueThrow(ISE, () -> x.specValue(0, 0, PLAIN));
        due(0, x.signature());
        due(5, x.specs(0));
        due(2, x.arrow(0, 1));
    }

    static void promise13() {
        ModuleLoft x = counter();
        due(1, x.specPart(0, 0));
        due(2, x.specPart(9, 0));
        due(3, x.specType(0, A));
        dueThrow(IOOBE, () -> x.specPart(1, 1));
        dueThrow(IOOBE, () -> x.specPart(1, -1));
        dueThrow(IOOBE, () -> x.specPart(10, 1));
        dueThrow(IAE, () -> x.specPart(10, 0));
        dueThrow(IAE, () -> x.specPart(-1, 0));
        dueThrow(ISE, () -> x.specPart(0, 0));
        due(1, x.signature());
        due(3, x.specs(1));
        due(50, x.match(0, 1));
    }

    static void promise14() {
        ModuleLoft x = counter();
        dueThrow(IOOBE, () -> x.include(1));
        dueThrow(IOOBE, () -> x.include(-1));
        due(1, x.specType(1, 0));
        due(3, x.include(0));
        dueThrow(ISE, () -> x.include(0));
        due(1, x.signature());
        due(3, x.specs(1));
        x.specType(1, 0);
        x.specType(0, A);
        x.specValue(0, -1, PLAIN);
        x.signature();
        due(true, x.alike(1, 2));
        due(1, x.specValue(0, 0, PLAIN));
        dueThrow(ISE, () -> x.include(0));
        due(2, x.specType(0, A));
        x.signature();
        due(2, x.specs(3));
        x.specPart(5, 1);
        due(3, x.include(0));
        x.signature();
        due(1, x.specPart(0, 4));
        due(4, x.include(4));
        due(5, x.signature());
    }

    /** What is included counts with the specs of its parts. */
    static void promise14Limit() {
        ModuleLoft x = wideSignatures();
        x.specPart(0, 1);
        x.specPart(1, 1);
        due(3, x.signature());
        due(2, x.include(3));
        due(2, x.include(0));
        due(4, x.signature());
        due(1, x.specType(0, A));
        dueThrow(ISE, () -> x.include(3));
        due(2, x.include(2));
        dueThrow(ISE, () -> x.specPart(1, 1));
        due(5, x.signature());
        due(2, x.specs(5));
    }

    static void promise15() {
        ModuleLoft x = new ModuleLoft();
        x.specType(0, A);
        due(0, x.signature());
        due(1, x.signature());
        due(1, x.specs(0));
        due(0, x.specs(1));
        fillSignatures(x, 20);
        x.specType(0, A);
        dueThrow(ISE, x::signature);
        dueThrow(IOOBE, () -> x.specs(20));
        due(2, x.specType(1, -1));
    }

    static void promise16() {
        ModuleLoft x = new ModuleLoft();
        x.addType(0, -1);
        x.arrow(2, 2);
        x.specType(0, A);
        x.specType(1, -1);
        x.specValue(0, -1, -2);
        x.specValue(1, 0, -1);
        x.signature();
        due(1, x.with(0, 0, 3, false));
        due(2, x.with(0, 0, 3, true));
        due(4, x.specs(0));
        due(4, x.specs(1));
        due(3, x.specs(2));
        x.specType(0, 3);
        x.specType(1, -1);
        x.specValue(0, -1, -2);
        x.specValue(1, 0, -1);
        x.signature();
        due(true, x.alike(1, 3));
        x.specType(1, 3);
        x.specValue(0, 3, -2);
        x.specValue(1, 0, 3);
        x.signature();
        due(true, x.alike(2, 4));
        dueThrow(IOOBE, () -> x.with(5, 0, 0, true));
        dueThrow(IOOBE, () -> x.with(-1, 0, 0, true));
        dueThrow(IOOBE, () -> x.with(0, 0, 4, true));
        dueThrow(IOOBE, () -> x.with(0, 0, -1, true));
        dueThrow(IOOBE, () -> x.with(0, 1, 0, true));
        dueThrow(IOOBE, () -> x.with(0, 2, 0, false));
        dueThrow(IOOBE, () -> x.with(0, 10, 0, false));
        dueThrow(IOOBE, () -> x.with(0, -1, 0, false));
        dueThrow(IOOBE, () -> x.with(1, 0, 0, false));
        fillSignatures(x, 20);
        dueThrow(ISE, () -> x.with(0, 0, 0, true));
        dueThrow(IOOBE, () -> x.with(0, 1, 0, true));
        due(4, x.specs(0));
    }

    /** A type taken out leaves room, in the specs that hold the signature as well. */
    static void promise16Room() {
        ModuleLoft x = wideSignatures();
        due(3, x.with(1, 9, 0, true));
        due(28, x.specs(3));
        due(1, x.specPart(0, 3));
        due(2, x.specPart(1, 1));
        due(3, x.specType(0, A));
        dueThrow(ISE, () -> x.specType(1, A));
        due(4, x.signature());
        due(5, x.with(4, 0, 1, false));
        due(3, x.include(5));
        dueThrow(ISE, () -> x.specType(1, A));
    }

    static void promise17() {
        ModuleLoft x = counter();
        due(2, x.specs(0));
        dueThrow(IOOBE, () -> x.specs(1));
        dueThrow(IOOBE, () -> x.specs(-1));
        x.specPart(0, 0);
        x.signature();
        due(1, x.specs(1));
    }

    static void promise18() {
        ModuleLoft x = counter();
        due(0, x.match(0, 0));
        x.specType(7, A);
        due(17, firstMisfit(x));
        x.specType(0, 0);
        due(20, firstMisfit(x));
        x.specType(0, A);
        x.specValue(3, -1, PLAIN);
        due(33, firstMisfit(x));
        x.specType(0, A);
        x.specValue(0, 1, PLAIN);
        due(40, firstMisfit(x));
        x.specPart(8, 0);
        due(58, firstMisfit(x));
        dueThrow(IOOBE, () -> x.match(1, 0));
        dueThrow(IOOBE, () -> x.match(-1, 0));
        dueThrow(IOOBE, () -> x.match(0, 9));
        dueThrow(IOOBE, () -> x.match(0, -1));
    }

    /** Makes the draft a signature, and matches structure 0 by it. */
    private static int firstMisfit(ModuleLoft x) {
        return x.match(0, x.signature());
    }

    static void promise18Parts() {
        ModuleLoft x = counter();
        x.addPart(6, 0);
        x.addType(0, 1);
        x.structure();
        x.specType(0, A);
        x.specPart(6, 0);
        x.signature();
        due(0, x.match(1, 1));
        due(56, x.match(0, 1));
        x.specType(1, A);
        x.signature();
        x.specPart(6, 2);
        x.specType(5, A);
        x.signature();
        due(66, x.match(1, 3));
        x.addPart(6, 1);
        x.structure();
        due(10, x.match(2, 1));
        x.specType(5, A);
        x.specPart(6, 2);
        x.signature();
        due(15, x.match(2, 4));
    }

    /** A value told as an arrow has the ARROW of the two, and a told type may be an ARROW. */
    static void promise18Arrows() {
        ModuleLoft x = new ModuleLoft();
        x.addType(0, -1);
        x.addType(1, x.arrow(2, 0));
        x.addValue(0, 3, 1);
        x.addValue(1, 0, 1);
        x.structure();
        x.specType(0, A);
        x.specValue(0, -1, 0);
        due(0, firstMisfit(x));
        x.specType(0, A);
        x.specType(1, A);
        x.specValue(0, -2, PLAIN);
        due(0, firstMisfit(x));
        x.specValue(0, 3, PLAIN);
        due(0, firstMisfit(x));
        x.specValue(0, 0, 2);
        due(40, firstMisfit(x));
        x.specValue(0, 2, 1);
        due(40, firstMisfit(x));
        x.specValue(1, 0, 0);
        due(41, firstMisfit(x));
        x.specValue(1, 1, 1);
        due(41, firstMisfit(x));
        x.specType(1, A);
        x.specType(0, -2);
        due(20, firstMisfit(x));
        dueTypes(4, x);
    }

    /** Structures and signatures as deep in one another as there is room for. */
    private static ModuleLoft deep(int levels) {
        ModuleLoft x = new ModuleLoft();
        x.addType(3, -1);
        x.structure();
        x.specType(3, A);
        x.signature();
        for (int level = 1; level < levels; level++) {
            x.addPart(0, level - 1);
            x.structure();
            x.specPart(0, level - 1);
            x.signature();
        }
        return x;
    }

    static void promise18Deep() {
        ModuleLoft x = deep(20);
        due(0, x.match(19, 19));
        due(60, x.match(19, 18));
        due(50, x.match(0, 19));
        due(true, x.finer(19, 19));
        due(false, x.finer(19, 18));
        due(true, x.alike(19, 19));
        due(false, x.alike(19, 18));
        due(20, x.structure());
    }

    static void promise19Deep() {
        ModuleLoft x = deep(15);
        due(29, x.seal(14, 14));
        due(28, x.item(29, PART, 0, 0));
        due(3, x.item(15, TYPE, 3, 0));
        ModuleLoft y = deep(15);
        due(29, y.view(14, 14));
        due(2, y.item(15, TYPE, 3, 0));
        ModuleLoft z = deep(16);
        dueThrow(ISE, () -> z.seal(15, 15));
        due(29, z.seal(13, 13));
    }

    static void promise19() {
        ModuleLoft x = counter();
        due(1, x.seal(0, 0));
        due(3, x.item(1, TYPE, 0, 0));
        due(3, x.item(1, VALUE, 0, 0));
        due(5, x.item(1, VALUE, 0, 2));
        due(1, x.type(3, 0));
        due(2, x.seal(1, 0));
        due(4, x.item(2, TYPE, 0, 0));
        due(2, x.item(0, TYPE, 0, 0));
        x.specType(0, 2);
        x.signature();
        due(3, x.seal(0, 1));
        due(1, x.items(3));
        due(2, x.item(3, TYPE, 0, 0));
        dueThrow(ISE, () -> x.seal(1, 1));
        dueThrow(IOOBE, () -> x.seal(4, 0));
        dueThrow(IOOBE, () -> x.seal(-1, 0));
        dueThrow(IOOBE, () -> x.seal(0, 2));
        dueThrow(IOOBE, () -> x.seal(0, -1));
        dueTypes(5, x);
        due(4, x.structure());
    }

    /** Items come in the order of the specs; parts of parts first, types as the specs are come to. */
    static void promise19Order() {
        ModuleLoft x = counter();
        x.addPart(1, 0);
        x.addType(5, 2);
        x.structure();
        x.addPart(2, 1);
        x.addPart(3, 0);
        x.addType(0, 2);
        x.addType(1, 2);
        x.addValue(4, x.arrow(2, 0), -6);
        x.structure();
        x.specType(5, A);
        x.specPart(1, 0);
        x.signature();
        dueThrow(IOOBE, () -> x.items(3));
        x.specType(1, A);
        x.specPart(2, 1);
        x.specType(0, A);
        x.specValue(4, -2, 0);
        x.specPart(3, 0);
        x.signature();
        due(0, x.match(2, 2));
        due(6, x.seal(2, 2));
        due(4, x.item(6, TYPE, 1, 0));
        due(5, x.item(4, TYPE, 5, 0));
        due(6, x.item(3, TYPE, 0, 0));
        due(6, x.item(3, VALUE, 0, 0));
        due(7, x.item(6, TYPE, 0, 0));
        due(8, x.item(6, VALUE, 4, 0));
        due(-6, x.item(6, VALUE, 4, 2));
        due(9, x.item(5, TYPE, 0, 0));
        due(4, x.type(8, 1));
        due(0, x.type(8, 2));
        due(4, x.item(6, PART, 2, 0));
        due(3, x.item(4, PART, 1, 0));
        due(5, x.item(6, PART, 3, 0));
        due(0, x.item(6, TYPE, 1, 1));
        due(1, x.item(6, PART, 2, 1));
        due(2, x.item(6, TYPE, 0, 1));
        due(3, x.item(6, VALUE, 4, 1));
        due(4, x.item(6, PART, 3, 1));
    }

    /** What finds no room makes nothing, not even a part or some of the types. */
    static void promise19Room() {
        ModuleLoft x = counter();
        x.addPart(0, 0);
        x.addType(0, 2);
        x.structure();
        x.specType(0, A);
        x.specPart(0, 0);
        x.signature();
        fillTypes(x, 199);
        dueThrow(ISE, () -> x.seal(1, 1));
        dueTypes(199, x);
        dueThrow(IOOBE, () -> x.items(2));
        due(2, x.seal(0, 0));
        due(199, x.item(2, TYPE, 0, 0));
        dueThrow(ISE, () -> x.seal(0, 0));
        due(4, x.view(1, 1));
        ModuleLoft y = counter();
        y.addPart(0, 0);
        y.structure();
        y.specPart(0, 0);
        y.signature();
        fillStructures(y, 29);
        dueThrow(ISE, () -> y.seal(1, 1));
        dueThrow(ISE, () -> y.view(1, 1));
        dueTypes(3, y);
        dueThrow(IOOBE, () -> y.items(29));
        due(29, y.seal(0, 0));
        dueThrow(ISE, () -> y.seal(0, 0));
        dueThrow(ISE, () -> y.view(0, 0));
        dueTypes(4, y);
    }

    /** An ARROW that is there already needs no room; one that is not does. */
    static void promise19ArrowRoom() {
        ModuleLoft x = new ModuleLoft();
        x.addType(0, -1);
        x.addValue(0, x.arrow(2, 2), 0);
        x.structure();
        x.specType(0, A);
        x.specValue(0, -1, -1);
        x.signature();
        x.specValue(0, 2, 2);
        x.signature();
        fillTypes(x, 199);
        dueThrow(ISE, () -> x.seal(0, 0));
        dueTypes(199, x);
        due(1, x.seal(0, 1));
        due(3, x.item(1, VALUE, 0, 0));
        dueTypes(199, x);
    }

    static void promise20() {
        ModuleLoft x = new ModuleLoft();
        x.addType(0, -1);
        x.addValue(0, x.arrow(2, 0), 8);
        x.addValue(1, 0, 9);
        x.structure();
        x.addPart(0, 0);
        x.addType(1, 1);
        x.structure();
        x.specValue(1, 0, PLAIN);
        x.specType(0, A);
        x.specValue(0, -1, 0);
        x.signature();
        x.specType(1, A);
        x.specType(2, -2);
        x.signature();
        x.specPart(0, 0);
        x.specType(1, A);
        x.signature();
        due(2, x.view(0, 0));
        due(3, x.items(2));
        due(0, x.item(2, VALUE, 1, 1));
        due(9, x.item(2, VALUE, 1, 2));
        due(2, x.item(2, TYPE, 0, 0));
        due(3, x.item(2, VALUE, 0, 0));
        due(8, x.item(2, VALUE, 0, 2));
        dueThrow(ISE, () -> x.view(1, 1));
        due(4, x.view(1, 2));
        due(3, x.item(4, PART, 0, 0));
        due(2, x.item(3, TYPE, 0, 0));
        due(1, x.item(4, TYPE, 1, 0));
        dueTypes(4, x);
        dueThrow(IOOBE, () -> x.view(5, 0));
        dueThrow(IOOBE, () -> x.view(0, 3));
        dueThrow(IOOBE, () -> x.view(-1, 0));
        dueThrow(IOOBE, () -> x.view(0, -1));
    }

    static void promise21() {
        ModuleLoft x = counter();
        x.specType(0, 0);
        x.specValue(0, 0, PLAIN);
        x.signature();
        x.specType(0, A);
        x.specType(1, A);
        x.signature();
        x.specType(0, A);
        x.specType(1, -1);
        x.signature();
        due(true, x.finer(0, 0));
        due(true, x.finer(1, 0));
        due(false, x.finer(0, 1));
        due(true, x.finer(3, 2));
        due(false, x.finer(2, 3));
        due(false, x.finer(0, 2));
        x.specType(1, A);
        x.specType(0, -2);
        x.signature();
        due(true, x.finer(4, 3));
        due(true, x.finer(3, 4));
        dueTypes(3, x);
        dueThrow(IOOBE, () -> x.finer(5, 0));
        dueThrow(IOOBE, () -> x.finer(0, 5));
        dueThrow(IOOBE, () -> x.finer(-1, 0));
        dueThrow(IOOBE, () -> x.finer(0, -1));
    }

    /** An ARROW that nobody has made is like itself; one that is told by its number is the ARROW of the two. */
    static void promise21Arrows() {
        ModuleLoft x = new ModuleLoft();
        x.specType(0, A);
        x.specValue(0, -1, 1);
        x.signature();
        x.specType(0, A);
        x.specValue(0, 1, -1);
        x.signature();
        x.specType(0, 1);
        x.specValue(0, -1, -1);
        x.signature();
        due(true, x.finer(0, 0));
        due(false, x.finer(0, 1));
        due(true, x.finer(2, 0));
        due(true, x.finer(2, 1));
        due(false, x.finer(0, 2));
        due(2, x.arrow(1, 1));
        x.specType(1, 2);
        x.specType(0, 1);
        x.specValue(0, -2, PLAIN);
        x.signature();
        due(true, x.finer(3, 2));
        due(true, x.finer(3, 0));
        due(false, x.finer(2, 3));
        x.specType(0, A);
        x.specValue(0, -1, PLAIN);
        x.signature();
        due(false, x.finer(0, 4));
        due(false, x.finer(4, 0));
        dueTypes(3, x);
    }

    /** Nothing is made by it, so it goes when there is no room for more. */
    static void promise21Room() {
        ModuleLoft x = counter();
        x.specPart(0, 0);
        x.specType(1, A);
        x.specValue(1, -2, -2);
        x.signature();
        x.specPart(0, 0);
        x.signature();
        x.specType(0, A);
        x.specType(1, A);
        x.specType(2, A);
        x.specPart(0, 0);
        x.signature();
        fillTypes(x, 200);
        fillStructures(x, 30);
        due(true, x.finer(1, 2));
        due(false, x.finer(2, 1));
        due(true, x.finer(3, 3));
        due(false, x.finer(3, 1));
        dueThrow(IOOBE, () -> x.items(30));
        dueThrow(ISE, () -> x.arrow(0, 0));
    }

    static void promise22() {
        ModuleLoft x = counter();
        x.specType(0, A);
        x.specValue(0, -1, PLAIN);
        x.signature();
        x.specValue(0, 0, PLAIN);
        x.specType(0, A);
        x.signature();
        x.specType(0, A);
        x.signature();
        due(true, x.alike(0, 0));
        due(true, x.alike(0, 1));
        due(false, x.alike(1, 2));
        due(false, x.alike(1, 3));
        due(false, x.alike(3, 1));
        x.specPart(4, 0);
        x.signature();
        x.specPart(4, 1);
        x.signature();
        x.specPart(4, 3);
        x.signature();
        x.specPart(5, 1);
        x.signature();
        due(true, x.alike(4, 5));
        due(false, x.alike(4, 6));
        due(false, x.alike(4, 7));
        dueThrow(IOOBE, () -> x.alike(8, 0));
        dueThrow(IOOBE, () -> x.alike(0, 8));
        dueThrow(IOOBE, () -> x.alike(-1, 0));
        dueThrow(IOOBE, () -> x.alike(0, -1));
    }

    /** It goes by what is written, not by what is meant. */
    static void promise22Written() {
        ModuleLoft x = new ModuleLoft();
        int arrow = x.arrow(0, 1);
        x.specType(0, 0);
        x.specType(1, 0);
        x.signature();
        x.specType(0, 0);
        x.specType(1, -1);
        x.signature();
        due(false, x.alike(0, 1));
        due(true, x.finer(0, 1));
        due(true, x.finer(1, 0));
        x.specValue(0, arrow, PLAIN);
        x.signature();
        x.specValue(0, 0, 1);
        x.signature();
        x.specValue(0, 0, PLAIN);
        x.signature();
        x.specValue(0, 0, 0);
        x.signature();
        due(false, x.alike(2, 3));
        due(false, x.alike(3, 4));
        due(false, x.alike(3, 5));
        due(true, x.finer(2, 3));
        x.specType(0, A);
        x.signature();
        x.specType(1, A);
        x.signature();
        x.specPart(0, 6);
        x.signature();
        due(false, x.alike(6, 7));
        due(false, x.alike(6, 8));
    }

    static void promise23() {
        ModuleLoft x = counter();
        due(1, x.bodyType(0, -1));
        due(2, x.bodyType(9, 0));
        due(3, x.bodyType(1, 9));
        dueThrow(IAE, () -> x.bodyType(10, 0));
        dueThrow(IAE, () -> x.bodyType(-1, 0));
        dueThrow(IAE, () -> x.bodyType(2, 10));
        dueThrow(IAE, () -> x.bodyType(2, -2));
        dueThrow(IAE, () -> x.bodyType(0, 10));
        dueThrow(ISE, () -> x.bodyType(0, 0));
        due(4, x.bodyType(2, 0));
    }

    static void promise24() {
        ModuleLoft x = counter();
        x.bodyType(3, -1);
        due(2, x.bodyValue(0, -4, PLAIN, -1, 10000));
        due(3, x.bodyValue(9, 0, -4, 9, -10000));
        dueThrow(IOOBE, () -> x.bodyValue(1, A, PLAIN, -1, 0));
        dueThrow(IOOBE, () -> x.bodyValue(1, -1, PLAIN, -1, 0));
        dueThrow(IOOBE, () -> x.bodyValue(1, 3, PLAIN, -1, 0));
        dueThrow(IOOBE, () -> x.bodyValue(1, 0, -1, -1, 0));
        dueThrow(IOOBE, () -> x.bodyValue(1, 0, 3, -1, 0));
        dueThrow(IOOBE, () -> x.bodyValue(10, 0, 3, 10, 20000));
        dueThrow(IAE, () -> x.bodyValue(10, 0, PLAIN, -1, 0));
        dueThrow(IAE, () -> x.bodyValue(-1, 0, PLAIN, -1, 0));
        dueThrow(IAE, () -> x.bodyValue(1, 0, PLAIN, 10, 0));
        dueThrow(IAE, () -> x.bodyValue(1, 0, PLAIN, -2, 0));
        dueThrow(IAE, () -> x.bodyValue(1, 0, PLAIN, -1, 10001));
        dueThrow(IAE, () -> x.bodyValue(1, 0, PLAIN, -1, -10001));
        dueThrow(IAE, () -> x.bodyValue(0, 0, PLAIN, -1, 10001));
        dueThrow(ISE, () -> x.bodyValue(0, 0, PLAIN, -1, 0));
        due(4, x.bodyValue(1, 2, 2, -1, 0));
    }

    static void promise25() {
        ModuleLoft x = counter();
        dueThrow(IOOBE, () -> x.functor(1, -1, true));
        dueThrow(IOOBE, () -> x.functor(-1, -1, true));
        dueThrow(IOOBE, () -> x.functor(0, 1, true));
        dueThrow(IOOBE, () -> x.functor(0, -2, true));
        x.bodyType(0, 1);
        dueThrow(ISE, () -> x.functor(0, -1, true));
        dueThrow(IOOBE, () -> x.functor(1, -1, true));
        x.specType(1, 0);
        x.signature();
        due(0, x.functor(1, 0, true));
        due(1, x.bodyValue(0, 0, PLAIN, 1, 0));
        dueThrow(ISE, () -> x.functor(0, -1, true));
        x.specValue(1, 0, PLAIN);
        x.signature();
        due(1, x.functor(2, 2, true));
        for (int number = 2; number < 8; number++) {
            due(number, x.functor(0, -1, false));
        }
        x.bodyType(0, -1);
        dueThrow(ISE, () -> x.functor(0, -1, false));
        dueThrow(IOOBE, () -> x.functor(3, -1, false));
        due(2, x.bodyType(1, -1));
    }

    static void promise26() {
        ModuleLoft x = counter();
        x.bodyType(0, 0);
        x.bodyType(1, -1);
        x.bodyValue(0, -1, PLAIN, 0, 10);
        x.bodyValue(1, -2, -1, -1, -3);
        x.bodyValue(2, 0, PLAIN, 0, -10000);
        x.bodyValue(3, 1, PLAIN, 0, 10000);
        x.functor(0, -1, true);
        due(1, x.apply(0, 0));
        due(6, x.items(1));
        due(2, x.item(1, TYPE, 0, 0));
        due(3, x.item(1, TYPE, 1, 0));
        due(15, x.item(1, VALUE, 0, 2));
        due(2, x.item(1, VALUE, 0, 0));
        due(4, x.item(1, VALUE, 1, 0));
        due(3, x.type(4, 1));
        due(2, x.type(4, 2));
        due(-3, x.item(1, VALUE, 1, 2));
        due(-9995, x.item(1, VALUE, 2, 2));
        due(10000, x.item(1, VALUE, 3, 2));
        due(3, x.item(1, VALUE, 1, 1));
        due(1, x.apply(0, 0));
        due(2, x.seal(0, 0));
        due(3, x.apply(0, 2));
        due(5, x.item(2, TYPE, 0, 0));
        due(5, x.item(3, TYPE, 0, 0));
        due(6, x.item(3, TYPE, 1, 0));
        due(4, x.structure());
        dueThrow(ISE, () -> x.apply(0, 4));
        dueThrow(IOOBE, () -> x.apply(1, 0));
        dueThrow(IOOBE, () -> x.apply(-1, 0));
        dueThrow(IOOBE, () -> x.apply(0, 5));
        dueThrow(IOOBE, () -> x.apply(0, -1));
        dueThrow(IOOBE, () -> x.apply(0, Integer.MAX_VALUE));
        dueTypes(8, x);
    }

    static void promise26Pure() {
        ModuleLoft x = counter();
        x.bodyType(0, -1);
        x.functor(0, -1, false);
        x.bodyType(0, -1);
        x.functor(0, -1, true);
        due(1, x.apply(0, 0));
        due(2, x.apply(0, 0));
        due(4, x.item(2, TYPE, 0, 0));
        due(3, x.apply(1, 0));
        due(3, x.apply(1, 0));
        fillStructures(x, 30);
        fillTypes(x, 200);
        due(3, x.apply(1, 0));
        dueThrow(ISE, () -> x.apply(0, 0));
        x.addType(1, 0);
        due(5, x.item(3, TYPE, 0, 0));
    }

    /** The result is the sealed one; what does not go makes nothing. */
    static void promise26Result() {
        ModuleLoft x = counter();
        x.bodyType(0, 0);
        x.bodyValue(0, -1, PLAIN, 0, 1);
        x.functor(0, 0, true);
        due(2, x.apply(0, 0));
        due(2, x.item(1, TYPE, 0, 0));
        due(3, x.item(2, TYPE, 0, 0));
        due(6, x.item(2, VALUE, 0, 2));
        x.bodyType(1, -1);
        x.bodyType(2, -1);
        x.functor(0, 0, true);
        dueThrow(ISE, () -> x.apply(1, 0));
        dueThrow(ISE, () -> x.apply(1, 0));
        dueTypes(4, x);
        dueThrow(IOOBE, () -> x.items(3));
        fillStructures(x, 29);
        dueThrow(ISE, () -> x.apply(0, 1));
        dueThrow(IOOBE, () -> x.items(29));
        dueTypes(4, x);
        due(2, x.apply(0, 0));
        due(29, x.structure());
    }

    static void promise26Room() {
        ModuleLoft x = counter();
        x.bodyType(0, -1);
        x.bodyValue(0, -1, 0, -1, 1);
        x.functor(0, -1, true);
        x.bodyType(0, -1);
        x.functor(0, -1, true);
        fillTypes(x, 199);
        dueThrow(ISE, () -> x.apply(0, 0));
        dueTypes(199, x);
        due(1, x.apply(1, 0));
        due(199, x.item(1, TYPE, 0, 0));
        dueThrow(ISE, () -> x.apply(1, 1));
        due(1, x.apply(1, 0));
        due(2, x.structure());
    }

    static void promise27() {
        ModuleLoft x = counter();
        dueThrow(IOOBE, () -> x.pack(1, 0));
        dueThrow(IOOBE, () -> x.pack(-1, 0));
        dueThrow(IOOBE, () -> x.pack(0, 1));
        dueThrow(IOOBE, () -> x.pack(0, -1));
        x.structure();
        dueThrow(ISE, () -> x.pack(1, 0));
        for (int number = 0; number < 10; number++) {
            due(number, x.pack(0, 0));
        }
        dueThrow(ISE, () -> x.pack(0, 0));
        dueThrow(IOOBE, () -> x.pack(2, 0));
        dueThrow(IOOBE, () -> x.unpack(10));
        due(2, x.structure());
    }

    static void promise28() {
        ModuleLoft x = counter();
        due(0, x.pack(0, 0));
        due(1, x.unpack(0));
        due(2, x.unpack(0));
        due(3, x.item(1, TYPE, 0, 0));
        due(4, x.item(2, TYPE, 0, 0));
        due(5, x.item(2, VALUE, 0, 2));
        dueThrow(IOOBE, () -> x.unpack(1));
        dueThrow(IOOBE, () -> x.unpack(-1));
        x.specType(0, 2);
        x.signature();
        due(1, x.pack(0, 1));
        due(3, x.unpack(1));
        due(2, x.item(3, TYPE, 0, 0));
        due(1, x.items(3));
        fillStructures(x, 30);
        dueThrow(ISE, () -> x.unpack(0));
        dueThrow(IOOBE, () -> x.unpack(2));
        dueTypes(5, x);
    }

    static void promise29() {
        ModuleLoft x = counter();
        dueThrow(IOOBE, () -> x.unit(1, 0, false));
        dueThrow(IOOBE, () -> x.unit(-1, 0, false));
        dueThrow(IOOBE, () -> x.unit(0, 1, false));
        due(0, x.unit(0, 0, false));
        dueThrow(IOOBE, () -> x.unit(0, 2, false));
        dueThrow(IOOBE, () -> x.unit(0, -1, false));
        dueThrow(IOOBE, () -> x.unit(0, Integer.MIN_VALUE, false));
        due(1, x.unit(0, 1, true));
        for (int number = 2; number < 8; number++) {
            due(number, x.unit(0, (1 << number) - 1, false));
        }
        dueThrow(ISE, () -> x.unit(0, 255, false));
        dueThrow(IOOBE, () -> x.unit(0, 256, false));
        dueThrow(IOOBE, () -> x.unit(1, 0, false));
        due(255, x.stale());
    }

    static void promise30() {
        ModuleLoft x = counter();
        x.signature();
        x.unit(0, 0, false);
        x.unit(0, 1, false);
        due(1, x.change(0, -1));
        due(2, x.change(0, 0));
        due(1, x.change(1, 1));
        dueThrow(IOOBE, () -> x.change(2, 0));
        dueThrow(IOOBE, () -> x.change(-1, 0));
        dueThrow(IOOBE, () -> x.change(0, 2));
        dueThrow(IOOBE, () -> x.change(0, -2));
        due(3, x.change(0, 1));
    }

    static void promise31() {
        ModuleLoft x = counter();
        x.specType(0, A);
        x.specValue(0, -1, PLAIN);
        x.signature();
        x.signature();
        x.unit(0, 0, false);
        x.unit(0, 0, true);
        x.unit(0, 1, false);
        x.unit(0, 2, true);
        x.unit(0, 8, false);
        due(31, x.stale());
        x.build();
        due(0, x.stale());
        x.change(0, -1);
        due(1, x.stale());
        x.change(0, 1);
        due(1, x.stale());
        x.change(0, 2);
        due(5, x.stale());
        x.change(0, 0);
        due(1, x.stale());
        x.build();
        due(0, x.stale());
        x.change(1, -1);
        due(2 + 8, x.stale());
        x.build();
        x.change(3, -1);
        due(8 + 16, x.stale());
        x.build();
        due(5, x.unit(2, 31, false));
        due(32, x.stale());
        x.build();
        x.change(4, 1);
        due(16, x.stale());
        x.change(4, 2);
        due(48, x.stale());
    }

    static void promise32() {
        ModuleLoft x = counter();
        x.signature();
        due(0, x.build());
        x.unit(0, 0, false);
        x.unit(0, 1, true);
        x.unit(0, 2, false);
        due(3, x.build());
        due(0, x.build());
        x.change(0, 1);
        due(3, x.stale());
        due(2, x.build());
        due(0, x.stale());
        x.change(0, 0);
        due(3, x.stale());
        x.change(1, -1);
        due(7, x.stale());
        due(3, x.build());
        due(0, x.stale());
        x.unit(0, 0, false);
        due(1, x.build());
    }

    public static void main(String[] args) {
        runAll(PromiseTests.class);
    }
}
