/**
 * The boundary cases of promises 23 to 28: bodies, functors and packs. The comment above each test is the sentence of
 * the document that it holds.
 */
public final class FunctorBoundaryTests extends Checks {
    private static final int[] NO_NAMES = {-1, 10, LEAST, GREATEST};

    // ---- states

    /** A counter, and a draft of a body with two types and two values that goes with signature 0. */
    private static ModuleLoft bodies() {
        ModuleLoft x = counter();
        x.bodyType(0, 0);
        x.bodyType(9, -1);
        x.bodyValue(0, -1, PLAIN, 0, 3);
        x.bodyValue(9, -10, -1, -1, -4);
        return x;
    }

    /** A counter and eight functors: 0 to 6 have no items, 7 has the body of bodies; there is a draft of a body. */
    private static ModuleLoft eightFunctors() {
        ModuleLoft x = counter();
        for (int number = 0; number < 7; number++) {
            x.functor(0, -1, true);
        }
        x.bodyType(0, 0);
        x.functor(0, -1, false);
        x.bodyType(5, 0);
        x.bodyValue(5, 0, PLAIN, 0, 0);
        return x;
    }

    /**
     * A counter; functor 0 makes a new TYPE 0 and a VALUE 0 that is an ARROW of it, and is not sealed; 1 makes a new
     * TYPE 0 and a VALUE 0 of it, which are sealed by signature 0. So each makes two types, and 1 two structures.
     */
    private static ModuleLoft applied(boolean isPure) {
        ModuleLoft x = counter();
        x.bodyType(0, -1);
        x.bodyValue(0, -1, -1, 0, 1);
        x.functor(0, -1, isPure);
        x.bodyType(0, -1);
        x.bodyValue(0, -1, PLAIN, 0, 1);
        x.functor(0, 0, isPure);
        return x;
    }

    private static ModuleLoft appliedAmong(int types, int structures) {
        ModuleLoft x = applied(true);
        fillTypes(x, types);
        fillStructures(x, structures);
        return x;
    }

    /** A counter, ten packs of it, and an empty structure 1. */
    private static ModuleLoft tenPacks() {
        ModuleLoft x = counter();
        x.structure();
        for (int number = 0; number < 10; number++) {
            x.pack(0, 0);
        }
        return x;
    }

    /** A counter and a pack of it, with so many types and so many structures. */
    private static ModuleLoft packAmong(int types, int structures) {
        ModuleLoft x = counter();
        x.pack(0, 0);
        fillTypes(x, types);
        fillStructures(x, structures);
        return x;
    }

    // ---- promise 23

    // "name: 0 to 9"
    static void promise23Names() {
        ModuleLoft x = new ModuleLoft();
        for (int name : NO_NAMES) {
            dueThrow(IAE, () -> x.bodyType(name, -1));
            dueThrow(IAE, () -> x.bodyType(name, 0));
        }
        due(1, x.bodyType(0, -1));
        due(2, x.bodyType(9, -1));
    }

    // "from: the name of a type of the argument, 0 to 9, or -1 for a new one"
    static void promise23From() {
        ModuleLoft x = new ModuleLoft();
        for (int from : new int[] {-2, 10, ModuleLoft.ABSTRACT, LEAST, GREATEST}) {
            dueThrow(IAE, () -> x.bodyType(0, from));
        }
        due(1, x.bodyType(0, 0));
        due(2, x.bodyType(1, 9));
        due(3, x.bodyType(2, -1));
        due(4, x.bodyType(3, 9));
    }

    // "if a type with the name is there": a value with the name is no hindrance.
    static void promise23SameName() {
        ModuleLoft x = counter();
        x.bodyValue(0, 0, PLAIN, -1, 0);
        due(2, x.bodyType(0, -1));
        dueThrow(ISE, () -> x.bodyType(0, -1));
        dueThrow(ISE, () -> x.bodyType(0, 0));
        x.functor(0, -1, false);
        due(1, x.bodyType(0, -1));
    }

    // "Returns how many items the draft has then": all names of both kinds at the most.
    static void promise23AllNames() {
        ModuleLoft x = counter();
        for (int name = 0; name < 10; name++) {
            due(2 * name + 1, x.bodyValue(name, 0, PLAIN, -1, name));
            due(2 * name + 2, x.bodyType(name, name == 0 ? 0 : -1));
        }
        due(0, x.functor(0, -1, false));
        due(1, x.apply(0, 0));
        due(20, x.items(1));
        due(18, x.item(1, VALUE, 9, 1));
        due(9, x.item(1, VALUE, 9, 2));
        due(19, x.item(1, TYPE, 9, 1));
        due(11, x.item(1, TYPE, 9, 0));
        due(2, x.item(1, TYPE, 0, 0));
    }

    // "IllegalArgumentException for another argument out of range; and IllegalStateException ..": in this order.
    static void promise23FirstException() {
        ModuleLoft x = bodies();
        dueThrow(IAE, () -> x.bodyType(0, 10));
        dueThrow(IAE, () -> x.bodyType(9, -2));
        dueThrow(IAE, () -> x.bodyType(10, 10));
        dueThrow(ISE, () -> x.bodyType(9, 9));
    }

    // "A call that throws an exception changes nothing."
    static void promise23Refused() {
        dueRefused(IAE, FunctorBoundaryTests::bodies, x -> x.bodyType(10, -1));
        dueRefused(IAE, FunctorBoundaryTests::bodies, x -> x.bodyType(-1, -1));
        dueRefused(IAE, FunctorBoundaryTests::bodies, x -> x.bodyType(1, 10));
        dueRefused(IAE, FunctorBoundaryTests::bodies, x -> x.bodyType(1, -2));
        dueRefused(ISE, FunctorBoundaryTests::bodies, x -> x.bodyType(0, -1));
        dueRefused(ISE, FunctorBoundaryTests::bodies, x -> x.bodyType(9, 0));
    }

    // ---- promise 24

    // "name: 0 to 9"
    static void promise24Names() {
        ModuleLoft x = new ModuleLoft();
        for (int name : NO_NAMES) {
            dueThrow(IAE, () -> x.bodyValue(name, 0, PLAIN, -1, 0));
        }
        due(1, x.bodyValue(0, 0, PLAIN, -1, 0));
        due(2, x.bodyValue(9, 0, PLAIN, -1, 0));
    }

    // "told: what is told, by the body's own types", "a type, 0 or more": on either side, from INT to the last one.
    static void promise24ToldTypes() {
        ModuleLoft x = new ModuleLoft();
        due(1, x.bodyValue(0, 0, 0, -1, 0));
        due(2, x.bodyValue(1, 1, 1, -1, 0));
        for (int told : new int[] {2, 200, GREATEST}) {
            dueThrow(IOOBE, () -> x.bodyValue(2, told, PLAIN, -1, 0));
            dueThrow(IOOBE, () -> x.bodyValue(2, told, 0, -1, 0));
            dueThrow(IOOBE, () -> x.bodyValue(2, 0, told, -1, 0));
        }
        fillTypes(x, 200);
        due(3, x.bodyValue(2, 199, PLAIN, -1, 0));
        due(4, x.bodyValue(3, 199, 199, -1, 0));
        dueThrow(IOOBE, () -> x.bodyValue(4, 200, PLAIN, -1, 0));
        dueThrow(IOOBE, () -> x.bodyValue(4, 0, 200, -1, 0));
    }

    // "told as -1 - n, which has to be there ahead of it": the first name and the last, on either side.
    static void promise24ToldNames() {
        ModuleLoft x = new ModuleLoft();
        dueThrow(IOOBE, () -> x.bodyValue(0, -1, PLAIN, -1, 0));
        x.bodyType(0, -1);
        x.bodyType(9, -1);
        due(3, x.bodyValue(0, -1, PLAIN, -1, 0));
        due(4, x.bodyValue(1, -10, PLAIN, -1, 0));
        due(5, x.bodyValue(2, -1, -10, -1, 0));
        for (int told : new int[] {-2, -9, -11, -99, -101, LEAST}) {
            dueThrow(IOOBE, () -> x.bodyValue(3, told, PLAIN, -1, 0));
            dueThrow(IOOBE, () -> x.bodyValue(3, told, -1, -1, 0));
            dueThrow(IOOBE, () -> x.bodyValue(3, -1, told, -1, 0));
        }
    }

    // "by the body's own types": not by those of the argument, of the draft of a signature, or of a body that was
    // made.
    static void promise24OwnTypes() {
        ModuleLoft x = counter();
        x.specType(3, A);
        dueThrow(IOOBE, () -> x.bodyValue(1, -4, PLAIN, -1, 0));
        dueThrow(IOOBE, () -> x.bodyValue(1, -1, PLAIN, -1, 0));
        x.bodyValue(0, 0, PLAIN, -1, 0);
        dueThrow(IOOBE, () -> x.bodyValue(1, -1, PLAIN, -1, 0));
        due(2, x.bodyType(0, 0));
        due(3, x.bodyValue(1, -1, -1, -1, 0));
        x.functor(0, -1, false);
        dueThrow(IOOBE, () -> x.bodyValue(1, -1, PLAIN, -1, 0));
        dueThrow(IOOBE, () -> x.bodyValue(1, 0, -1, -1, 0));
    }

    // "to: PLAIN, or what is told": -100 is PLAIN on this side, and no type name on the other.
    static void promise24Plain() {
        ModuleLoft x = new ModuleLoft();
        x.bodyType(0, -1);
        due(2, x.bodyValue(0, 0, -100, -1, 0));
        dueThrow(IOOBE, () -> x.bodyValue(1, -100, PLAIN, -1, 0));
        dueThrow(IOOBE, () -> x.bodyValue(1, -100, 0, -1, 0));
    }

    // "from: the name of a value of the argument, 0 to 9, or -1"
    static void promise24From() {
        ModuleLoft x = new ModuleLoft();
        for (int from : new int[] {-2, 10, PLAIN, LEAST, GREATEST}) {
            dueThrow(IAE, () -> x.bodyValue(0, 0, PLAIN, from, 0));
        }
        due(1, x.bodyValue(0, 0, PLAIN, 0, 0));
        due(2, x.bodyValue(1, 0, PLAIN, 9, 0));
        due(3, x.bodyValue(2, 0, PLAIN, -1, 0));
    }

    // "number: -10000 to 10000"
    static void promise24Numbers() {
        ModuleLoft x = counter();
        for (int number : new int[] {-10001, 10001, LEAST, GREATEST}) {
            dueThrow(IAE, () -> x.bodyValue(0, 0, PLAIN, -1, number));
        }
        due(1, x.bodyValue(0, 0, PLAIN, -1, -10000));
        due(2, x.bodyValue(1, 0, PLAIN, -1, 10000));
        x.functor(0, -1, false);
        x.apply(0, 0);
        due(-10000, x.item(1, VALUE, 0, 2));
        due(10000, x.item(1, VALUE, 1, 2));
    }

    // "if a value with the name is there": a type with the name is no hindrance.
    static void promise24SameName() {
        ModuleLoft x = counter();
        x.bodyType(0, -1);
        due(2, x.bodyValue(0, 0, PLAIN, -1, 0));
        dueThrow(ISE, () -> x.bodyValue(0, 0, PLAIN, -1, 0));
        dueThrow(ISE, () -> x.bodyValue(0, -1, -1, 0, 1));
        x.functor(0, -1, false);
        due(1, x.bodyValue(0, 0, PLAIN, -1, 0));
    }

    // "told as in a signature": an ARROW that is told is not made before the functor is applied.
    static void promise24MakesNoType() {
        ModuleLoft x = counter();
        due(1, x.bodyValue(0, 0, 1, -1, 0));
        x.functor(0, -1, false);
        dueTypes(3, x);
        x.apply(0, 0);
        dueTypes(4, x);
    }

    // "If several apply, IndexOutOfBoundsException goes first, then IllegalArgumentException."
    static void promise24FirstException() {
        ModuleLoft x = bodies();
        dueThrow(IOOBE, () -> x.bodyValue(10, 3, PLAIN, 10, 10001));
        dueThrow(IOOBE, () -> x.bodyValue(10, 0, -2, -1, 0));
        dueThrow(IOOBE, () -> x.bodyValue(1, -2, PLAIN, -2, 0));
        dueThrow(IOOBE, () -> x.bodyValue(1, 0, 3, -1, -10001));
        dueThrow(IOOBE, () -> x.bodyValue(0, 3, PLAIN, -1, 0));
        dueThrow(IAE, () -> x.bodyValue(0, 0, PLAIN, 10, 0));
        dueThrow(IAE, () -> x.bodyValue(0, 0, PLAIN, -1, 10001));
        dueThrow(IAE, () -> x.bodyValue(10, 0, PLAIN, -1, 0));
        dueThrow(ISE, () -> x.bodyValue(0, 0, PLAIN, -1, 10000));
    }

    // "A call that throws an exception changes nothing."
    static void promise24Refused() {
        dueRefused(IOOBE, FunctorBoundaryTests::bodies, x -> x.bodyValue(1, 3, PLAIN, -1, 0));
        dueRefused(IOOBE, FunctorBoundaryTests::bodies, x -> x.bodyValue(1, 0, -2, -1, 0));
        dueRefused(IAE, FunctorBoundaryTests::bodies, x -> x.bodyValue(10, 0, PLAIN, -1, 0));
        dueRefused(IAE, FunctorBoundaryTests::bodies, x -> x.bodyValue(1, 0, PLAIN, 10, 0));
        dueRefused(IAE, FunctorBoundaryTests::bodies, x -> x.bodyValue(1, 0, PLAIN, -1, 10001));
        dueRefused(ISE, FunctorBoundaryTests::bodies, x -> x.bodyValue(0, 0, PLAIN, -1, 9));
    }

    // ---- promise 25

    // "argument: a signature", "result: a signature, or -1"
    static void promise25Signatures() {
        ModuleLoft x = counter();
        for (int signature : new int[] {-1, 1, 19, 20, LEAST, GREATEST}) {
            dueThrow(IOOBE, () -> x.functor(signature, -1, false));
        }
        for (int signature : new int[] {-2, 1, 19, 20, ModuleLoft.ABSTRACT, LEAST, GREATEST}) {
            dueThrow(IOOBE, () -> x.functor(0, signature, false));
        }
        fillSignatures(x, 20);
        due(0, x.functor(0, 19, false));
        due(1, x.functor(19, 0, false));
        due(2, x.functor(19, -1, true));
        dueThrow(IOOBE, () -> x.functor(20, -1, false));
        dueThrow(IOOBE, () -> x.functor(0, 20, false));
    }

    // "Makes the draft of a body a functor, at most 8": the next is "more than told".
    static void promise25LastFunctor() {
        ModuleLoft x = counter();
        for (int number = 0; number < 8; number++) {
            due(number, x.functor(0, -1, number % 2 == 0));
        }
        dueThrow(ISE, () -> x.functor(0, -1, false));
        dueThrow(ISE, () -> x.functor(0, 0, true));
        due(1, x.apply(7, 0));
        dueThrow(IOOBE, () -> x.apply(8, 0));
    }

    // "the draft is empty then."
    static void promise25EmptyThen() {
        ModuleLoft x = bodies();
        due(0, x.functor(0, -1, false));
        due(1, x.functor(0, -1, false));
        due(1, x.apply(0, 0));
        due(2, x.apply(1, 0));
        due(4, x.items(1));
        due(0, x.items(2));
        due(1, x.bodyType(0, -1));
    }

    /** Signature 0 has the TYPEs 0 and 9, abstract and told, and the VALUEs 1 and 8. */
    private static ModuleLoft narrowArgument() {
        ModuleLoft x = new ModuleLoft();
        x.specType(0, A);
        x.specType(9, 1);
        x.specValue(1, 0, PLAIN);
        x.specValue(8, 0, PLAIN);
        x.signature();
        return x;
    }

    // "if the body means a type .. that the signature of the argument does not have": the name of a value is none.
    static void promise25TypeNotHad() {
        for (int from = -1; from < 10; from++) {
            ModuleLoft x = narrowArgument();
            x.bodyType(1, from);
            if (from == -1 || from == 0 || from == 9) {
                due(0, x.functor(0, -1, false));
            } else {
                dueThrow(ISE, () -> x.functor(0, -1, false));
            }
        }
    }

    // "or a value that the signature of the argument does not have": the name of a type is none.
    static void promise25ValueNotHad() {
        for (int from = -1; from < 10; from++) {
            ModuleLoft x = narrowArgument();
            x.bodyValue(0, 0, PLAIN, from, 0);
            if (from == -1 || from == 1 || from == 8) {
                due(0, x.functor(0, -1, false));
            } else {
                dueThrow(ISE, () -> x.functor(0, -1, false));
            }
        }
    }

    // "the signature of the argument": an empty one has nothing, but a body may mean nothing of it.
    static void promise25EmptyArgument() {
        ModuleLoft x = new ModuleLoft();
        x.signature();
        x.structure();
        x.bodyType(0, -1);
        x.bodyValue(0, -1, -1, -1, 7);
        due(0, x.functor(0, -1, true));
        due(1, x.apply(0, 0));
        due(2, x.items(1));
        x.bodyType(0, 0);
        dueThrow(ISE, () -> x.functor(0, -1, true));
    }

    // "If several apply, IndexOutOfBoundsException goes first"
    static void promise25FirstException() {
        ModuleLoft x = eightFunctors();
        dueThrow(IOOBE, () -> x.functor(1, -1, false));
        dueThrow(IOOBE, () -> x.functor(0, 1, false));
        dueThrow(IOOBE, () -> x.functor(0, -2, false));
        dueThrow(ISE, () -> x.functor(0, -1, false));
        ModuleLoft y = counter();
        y.bodyType(0, 1);
        dueThrow(IOOBE, () -> y.functor(-1, -1, false));
        dueThrow(IOOBE, () -> y.functor(0, 1, false));
        dueThrow(ISE, () -> y.functor(0, -1, false));
    }

    // "A call that throws an exception changes nothing": the draft is not empty then.
    static void promise25Refused() {
        dueRefused(IOOBE, FunctorBoundaryTests::bodies, x -> x.functor(1, -1, true));
        dueRefused(IOOBE, FunctorBoundaryTests::bodies, x -> x.functor(0, 1, true));
        dueRefused(ISE, FunctorBoundaryTests::eightFunctors, x -> x.functor(0, -1, true));
        Making emptySignature = () -> {
            ModuleLoft x = bodies();
            x.signature();
            return x;
        };
        dueRefused(ISE, emptySignature, x -> x.functor(1, -1, true));
        ModuleLoft x = emptySignature.make();
        dueThrow(ISE, () -> x.functor(1, -1, true));
        dueThrow(ISE, () -> x.bodyType(0, -1));
        due(0, x.functor(0, -1, true));
    }

    // ---- promise 26

    // "functor: a functor", "structure: a structure": those beside the first and the last are not there.
    static void promise26NoSuch() {
        ModuleLoft x = eightFunctors();
        for (int functor : new int[] {-1, 8, LEAST, GREATEST}) {
            dueThrow(IOOBE, () -> x.apply(functor, 0));
        }
        for (int structure : new int[] {-1, 1, 29, 30, LEAST, GREATEST}) {
            dueThrow(IOOBE, () -> x.apply(0, structure));
        }
        due(1, x.apply(0, 0));
        due(2, x.apply(7, 0));
        due(0, x.items(1));
        due(1, x.items(2));
        ModuleLoft y = counter();
        dueThrow(IOOBE, () -> y.apply(0, 0));
    }

    // "(cut to -10000 to 10000)": what is within is not, what is beyond is, on either side.
    static void promise26Cut() {
        int[][] sums = {
            {10000, 0, 10000}, {10000, 1, 10000}, {9999, 1, 10000}, {9999, 2, 10000}, {10000, 10000, 10000},
            {10000, -1, 9999}, {10000, -10000, 0}, {0, 10000, 10000}, {1, 10000, 10000}, {-1, 10000, 9999},
            {-10000, 0, -10000}, {-10000, -1, -10000}, {-9999, -1, -10000}, {-9999, -2, -10000},
            {-10000, -10000, -10000}, {-10000, 1, -9999}, {0, -10000, -10000}, {1, -10000, -9999}};
        for (int[] sum : sums) {
            ModuleLoft x = new ModuleLoft();
            x.addValue(9, 0, sum[0]);
            x.structure();
            x.specValue(9, 0, PLAIN);
            x.signature();
            x.bodyValue(0, 1, PLAIN, 9, sum[1]);
            x.bodyValue(1, 1, PLAIN, -1, sum[1]);
            x.functor(0, -1, false);
            due(1, x.apply(0, 0));
            due(sum[2], x.item(1, VALUE, 0, 2));
            due(sum[1], x.item(1, VALUE, 1, 2));
            due(1, x.item(1, VALUE, 0, 0));
        }
    }

    // "The body is a draft": an empty one makes an empty structure, sealed by an empty signature an empty one again.
    static void promise26EmptyBody() {
        ModuleLoft x = counter();
        x.signature();
        x.functor(0, -1, false);
        x.functor(0, 1, false);
        due(1, x.apply(0, 0));
        due(0, x.items(1));
        due(3, x.apply(1, 0));
        due(0, x.items(2));
        due(0, x.items(3));
        dueTypes(3, x);
    }

    // "If the functor is pure, and was applied to the same structure already, the result is that of then."
    static void promise26Pure() {
        ModuleLoft x = applied(true);
        due(1, x.apply(0, 0));
        due(3, x.apply(1, 0));
        due(1, x.apply(0, 0));
        due(3, x.apply(1, 0));
        x.open(0);
        due(4, x.structure());
        due(5, x.apply(0, 4));
        due(7, x.apply(1, 4));
        due(1, x.apply(0, 0));
        due(5, x.apply(0, 4));
    }

    // The same: the result of then needs no room, and another structure does.
    static void promise26PureWhenFull() {
        ModuleLoft x = applied(true);
        x.open(0);
        x.structure();
        due(2, x.apply(0, 0));
        fillStructures(x, 30);
        fillTypes(x, 200);
        due(2, x.apply(0, 0));
        dueThrow(ISE, () -> x.apply(0, 1));
        dueThrow(ISE, () -> x.apply(1, 0));
        due(2, x.apply(0, 0));
    }

    // "pure or not": one that is not makes all anew each time.
    static void promise26NotPure() {
        ModuleLoft x = applied(false);
        due(1, x.apply(0, 0));
        due(2, x.apply(0, 0));
        due(3, x.item(1, TYPE, 0, 0));
        due(5, x.item(2, TYPE, 0, 0));
        due(4, x.apply(1, 0));
        due(6, x.apply(1, 0));
        fillStructures(x, 30);
        dueThrow(ISE, () -> x.apply(0, 0));
    }

    // "and was applied": not if that was refused; it is applied when there is what it needs.
    static void promise26RefusedIsNotApplied() {
        ModuleLoft x = counter();
        x.bodyType(0, -1);
        x.functor(0, 0, true);
        dueThrow(ISE, () -> x.apply(0, 0));
        dueThrow(ISE, () -> x.apply(0, 0));
        due(1, x.structure());
        dueTypes(3, x);
    }

    // "new types being made; what comes of that is sealed": in this order, and ARROWs too.
    static void promise26Order() {
        ModuleLoft x = applied(false);
        due(1, x.apply(0, 0));
        due(3, x.item(1, TYPE, 0, 0));
        due(4, x.item(1, VALUE, 0, 0));
        due(3, x.type(4, 1));
        due(3, x.type(4, 2));
        due(6, x.item(1, VALUE, 0, 2));
        due(3, x.apply(1, 0));
        due(5, x.item(2, TYPE, 0, 0));
        due(5, x.item(2, VALUE, 0, 0));
        due(6, x.item(3, TYPE, 0, 0));
        due(6, x.item(3, VALUE, 0, 0));
        due(6, x.item(3, VALUE, 0, 2));
        dueTypes(7, x);
    }

    // "Structures are numbered from 0, at most 30": room for the structure, or for it and the sealed one.
    static void promise26LastStructure() {
        ModuleLoft x = appliedAmong(10, 28);
        due(29, x.apply(1, 0));
        dueThrow(ISE, () -> x.apply(0, 0));
        due(29, x.apply(1, 0));
        ModuleLoft y = appliedAmong(10, 29);
        dueThrow(ISE, () -> y.apply(1, 0));
        dueTypes(10, y);
        dueThrow(IOOBE, () -> y.items(29));
        due(29, y.apply(0, 0));
        dueThrow(ISE, () -> y.apply(1, 0));
    }

    // "Types are numbered from 0, at most 200": room for the body's types, and for those of sealing.
    static void promise26LastType() {
        for (int functor = 0; functor < 2; functor++) {
            int asked = functor;
            ModuleLoft x = appliedAmong(198, 3);
            due(3 + functor, x.apply(functor, 0));
            dueTypes(200, x);
            ModuleLoft y = appliedAmong(199, 3);
            dueThrow(ISE, () -> y.apply(asked, 0));
            dueTypes(199, y);
            due(3, y.structure());
            ModuleLoft z = appliedAmong(200, 3);
            dueThrow(ISE, () -> z.apply(asked, 0));
        }
    }

    // "each of them one of the argument, or new": what is the argument's needs no room for types.
    static void promise26NoNewType() {
        ModuleLoft x = counter();
        x.bodyType(9, 0);
        x.bodyValue(9, -10, PLAIN, 0, 0);
        x.functor(0, -1, false);
        fillTypes(x, 200);
        due(1, x.apply(0, 0));
        due(2, x.item(1, TYPE, 9, 0));
        due(2, x.item(1, VALUE, 9, 0));
        due(5, x.item(1, VALUE, 9, 2));
    }

    // "from: the name of a type of the argument", "the name of a value of the argument": the first and the last.
    static void promise26FirstAndLastName() {
        ModuleLoft x = new ModuleLoft();
        x.addType(0, 0);
        x.addType(9, 1);
        x.addValue(0, 0, 3);
        x.addValue(9, 0, 4);
        x.structure();
        x.specValue(9, 0, PLAIN);
        x.specValue(0, 0, PLAIN);
        x.specType(9, A);
        x.specType(0, A);
        x.signature();
        x.bodyType(0, 9);
        x.bodyType(9, 0);
        x.bodyValue(0, -10, PLAIN, 9, 0);
        x.bodyValue(9, -1, PLAIN, 0, 0);
        x.functor(0, -1, false);
        due(1, x.apply(0, 0));
        due(1, x.item(1, TYPE, 0, 0));
        due(0, x.item(1, TYPE, 9, 0));
        due(0, x.item(1, VALUE, 0, 0));
        due(4, x.item(1, VALUE, 0, 2));
        due(1, x.item(1, VALUE, 9, 0));
        due(3, x.item(1, VALUE, 9, 2));
        due(0, x.item(1, TYPE, 0, 2));
        due(0, x.item(1, TYPE, 9, 2));
    }

    // "if the structure is not matched, or what comes of the body is not": nothing is made.
    static void promise26NotMatched() {
        ModuleLoft x = applied(false);
        due(1, x.structure());
        dueThrow(ISE, () -> x.apply(0, 1));
        dueThrow(ISE, () -> x.apply(1, 1));
        x.bodyType(0, -1);
        x.bodyValue(0, 0, PLAIN, 0, 0);
        x.functor(0, 0, false);
        dueThrow(ISE, () -> x.apply(2, 0));
        dueTypes(3, x);
        due(2, x.structure());
    }

    // "If several apply, IndexOutOfBoundsException goes first"
    static void promise26FirstException() {
        ModuleLoft x = appliedAmong(200, 30);
        dueThrow(IOOBE, () -> x.apply(2, 0));
        dueThrow(IOOBE, () -> x.apply(-1, 1));
        dueThrow(IOOBE, () -> x.apply(0, 30));
        dueThrow(IOOBE, () -> x.apply(1, -1));
        dueThrow(ISE, () -> x.apply(0, 1));
        dueThrow(ISE, () -> x.apply(0, 0));
    }

    // "A call that throws an exception changes nothing": no type, no structure, and no result is kept.
    static void promise26Refused() {
        dueRefused(IOOBE, () -> applied(true), x -> x.apply(2, 0));
        dueRefused(IOOBE, () -> applied(true), x -> x.apply(0, 1));
        dueRefused(ISE, () -> appliedAmong(10, 29), x -> x.apply(1, 0));
        dueRefused(ISE, () -> appliedAmong(10, 30), x -> x.apply(0, 0));
        dueRefused(ISE, () -> appliedAmong(199, 3), x -> x.apply(0, 0));
        dueRefused(ISE, () -> appliedAmong(199, 3), x -> x.apply(1, 0));
        dueRefused(ISE, () -> appliedAmong(199, 3), x -> x.apply(0, 1));
        Making notSealed = () -> {
            ModuleLoft x = applied(true);
            x.bodyType(0, -1);
            x.bodyValue(1, -1, -1, -1, 0);
            x.functor(0, 0, true);
            return x;
        };
        dueRefused(ISE, notSealed, x -> x.apply(2, 0));
    }

    // ---- promise 27

    // "structure: a structure", "signature: a signature": those beside the first and the last are not there.
    static void promise27NoSuch() {
        ModuleLoft x = counter();
        for (int number : new int[] {-1, 1, 19, 20, 29, 30, LEAST, GREATEST}) {
            dueThrow(IOOBE, () -> x.pack(number, 0));
            dueThrow(IOOBE, () -> x.pack(0, number));
        }
        fillStructures(x, 30);
        fillSignatures(x, 20);
        due(0, x.pack(29, 19));
        due(1, x.pack(0, 0));
        due(2, x.pack(0, 19));
    }

    // "A pack is a structure and a signature that matches it; at most 10": the next is "more than told".
    static void promise27LastPack() {
        ModuleLoft x = counter();
        for (int number = 0; number < 10; number++) {
            due(number, x.pack(0, 0));
        }
        dueThrow(ISE, () -> x.pack(0, 0));
        due(1, x.unpack(9));
        dueThrow(IOOBE, () -> x.unpack(10));
    }

    // "Makes a pack": that needs no room for types or structures.
    static void promise27NeedsNoRoom() {
        ModuleLoft x = counter();
        fillTypes(x, 200);
        fillStructures(x, 30);
        due(0, x.pack(0, 0));
        due(1, x.pack(0, 0));
    }

    // "or if the structure is not matched": no number is used up by that.
    static void promise27NotMatched() {
        ModuleLoft x = counter();
        x.structure();
        due(0, x.pack(0, 0));
        dueThrow(ISE, () -> x.pack(1, 0));
        due(1, x.pack(0, 0));
        dueThrow(IOOBE, () -> x.unpack(2));
    }

    // "If several apply, IndexOutOfBoundsException goes first"
    static void promise27FirstException() {
        ModuleLoft x = tenPacks();
        dueThrow(IOOBE, () -> x.pack(2, 0));
        dueThrow(IOOBE, () -> x.pack(0, 1));
        dueThrow(IOOBE, () -> x.pack(-1, -1));
        dueThrow(ISE, () -> x.pack(1, 0));
        dueThrow(ISE, () -> x.pack(0, 0));
    }

    // "A call that throws an exception changes nothing."
    static void promise27Refused() {
        Making onePack = () -> {
            ModuleLoft x = counter();
            x.structure();
            x.pack(0, 0);
            return x;
        };
        dueRefused(IOOBE, onePack, x -> x.pack(2, 0));
        dueRefused(IOOBE, onePack, x -> x.pack(0, 1));
        dueRefused(ISE, onePack, x -> x.pack(1, 0));
        dueRefused(ISE, FunctorBoundaryTests::tenPacks, x -> x.pack(0, 0));
        dueRefused(ISE, FunctorBoundaryTests::tenPacks, x -> x.pack(1, 0));
    }

    // ---- promise 28

    // "pack: a pack": the first and the last of 10 are, those beside them are not.
    static void promise28Packs() {
        ModuleLoft x = tenPacks();
        for (int pack : new int[] {-1, 10, LEAST, GREATEST}) {
            dueThrow(IOOBE, () -> x.unpack(pack));
        }
        due(2, x.unpack(0));
        due(3, x.unpack(9));
        ModuleLoft y = counter();
        dueThrow(IOOBE, () -> y.unpack(0));
        y.pack(0, 0);
        dueThrow(IOOBE, () -> y.unpack(1));
    }

    // "To open it seals the structure by the signature, each time anew."
    static void promise28EachTimeAnew() {
        ModuleLoft x = tenPacks();
        due(2, x.unpack(4));
        due(3, x.unpack(4));
        due(4, x.unpack(5));
        for (int structure = 2; structure < 5; structure++) {
            due(1 + structure, x.item(structure, TYPE, 0, 0));
            due(1 + structure, x.item(structure, VALUE, 0, 0));
            due(5, x.item(structure, VALUE, 0, 2));
        }
    }

    // "Structures .. at most 30", "types .. at most 200": the last that goes, and the next that does not.
    static void promise28LastOnes() {
        ModuleLoft x = packAmong(199, 29);
        due(29, x.unpack(0));
        due(199, x.item(29, TYPE, 0, 0));
        dueThrow(ISE, () -> x.unpack(0));
        ModuleLoft y = packAmong(5, 30);
        dueThrow(ISE, () -> y.unpack(0));
        dueTypes(5, y);
        ModuleLoft z = packAmong(200, 5);
        dueThrow(ISE, () -> z.unpack(0));
        due(5, z.structure());
    }

    // The same: a pack of an empty signature needs no room for types, but for a structure.
    static void promise28EmptySignature() {
        ModuleLoft x = counter();
        x.signature();
        x.pack(0, 1);
        fillTypes(x, 200);
        fillStructures(x, 29);
        due(29, x.unpack(0));
        due(0, x.items(29));
        dueThrow(ISE, () -> x.unpack(0));
    }

    // "If several apply, IndexOutOfBoundsException goes first"
    static void promise28FirstException() {
        ModuleLoft x = packAmong(200, 30);
        dueThrow(IOOBE, () -> x.unpack(1));
        dueThrow(IOOBE, () -> x.unpack(-1));
        dueThrow(ISE, () -> x.unpack(0));
    }

    // "A call that throws an exception changes nothing."
    static void promise28Refused() {
        dueRefused(IOOBE, () -> packAmong(5, 5), x -> x.unpack(1));
        dueRefused(IOOBE, () -> packAmong(5, 5), x -> x.unpack(-1));
        dueRefused(ISE, () -> packAmong(200, 5), x -> x.unpack(0));
        dueRefused(ISE, () -> packAmong(5, 30), x -> x.unpack(0));
    }

    public static void main(String[] args) {
        runAll(FunctorBoundaryTests.class);
    }
}
