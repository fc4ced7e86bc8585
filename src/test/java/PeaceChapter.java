import java.util.NoSuchElementException;

/** Promises 32 to 35: peace. */
final class PeaceChapter extends Chapter {
    private static final Class<NoSuchElementException> NO_PEACE = NoSuchElementException.class;
    private static final Class<IndexOutOfBoundsException> NO_DOOR = IndexOutOfBoundsException.class;
    private static final Class<IllegalArgumentException> NO_HEIGHT = IllegalArgumentException.class;

    /** Three doors with frames from 0 to 40, and constraints that put door 0 above both others. */
    private static final Scene THREE = () -> {
        LintelBrothers x = Scenes.doors(0, 40, 0, 40, 0, 40);
        x.addConstraint('#', 1, 2, 5);
        x.addConstraint('<', 2, 0, 2);
        x.addConstraint('=', 1, 0, 3);
        return x;
    };

    PeaceChapter(Sentences sentences) {
        super(sentences);
    }

    @Override
    void tell() {
        promise(32);
        hasPeace();
        promise(33);
        peaceHeight();
        promise(34);
        peaceSum();
        promise(35);
        arePossible();
        arePossibleRefuses();
    }

    /** Five doors with each two of them apart by ten, which fills 0 to 40. */
    private static LintelBrothers tenApart() {
        LintelBrothers x = Scenes.doors(0, 40, 0, 40, 0, 40, 0, 40, 0, 40);
        for (int first = 0; first < 5; first++) {
            for (int second = first + 1; second < 5; second++) {
                x.addConstraint('#', first, second, 10);
            }
        }
        return x;
    }

    /** Six doors of the heights 1 to 3, apart by two from door to door. */
    private static LintelBrothers sixInARow() {
        LintelBrothers x = Scenes.doors(1, 3, 1, 3, 1, 3, 1, 3, 1, 3, 1, 3);
        for (int door = 0; door < 5; door++) {
            x.addConstraint('#', door, door + 1, 2);
        }
        return x;
    }

    private void hasPeace() {
        holds("Tells whether there is a peace.", () -> {
            LintelBrothers x = Scenes.doors(0, 40, 0, 40, 0, 40);
            x.addConstraint('#', 0, 1, 20);
            x.addConstraint('#', 1, 2, 20);
            x.addConstraint('#', 0, 2, 20);
            same("just wide enough", true, x::hasPeace);
            x.setFrame(0, 0, 39);
            x.setFrame(1, 0, 39);
            same(true, x::hasPeace);
            x.setFrame(2, 0, 39);
            same("one height too few", false, x::hasPeace);
            LintelBrothers ten = tenApart();
            same(true, ten::hasPeace);
            for (int door = 0; door < 5; door++) {
                ten.setFrame(door, 0, 39);
                same("door " + door, door < 4, ten::hasPeace);
            }
            same(false, () -> Scenes.TORN.make().hasPeace());
            same("within the bounds", false, () -> THREE.then(y -> y.narrow(0, 0, 7)).make().hasPeace());
            leaves(Scenes.FULL, LintelBrothers::hasPeace);
            leaves(Scenes.TORN, LintelBrothers::hasPeace);
        });
        holds("Returns whether there is one.", () -> {
            same("no doors", true, () -> new LintelBrothers().hasPeace());
            same(true, () -> Scenes.doors(40, 40).hasPeace());
            same(true, () -> Scenes.FULL.make().hasPeace());
            LintelBrothers x = sixInARow();
            same(true, x::hasPeace);
            x.narrow(3, 2, 2);
            same("bounds count, not frames", false, x::hasPeace);
            x.reset();
            same(true, x::hasPeace);
            x.addConstraint('=', 0, 1, 1);
            same(false, x::hasPeace);
            x.removeConstraint(5);
            same(true, x::hasPeace);
            x.undo();
            same(false, x::hasPeace);
        });
    }

    private void peaceHeight() {
        holds("Returns the height of a door in the first peace.", () -> {
            same("no constraints", "7 0 40", () -> Look.peace(Scenes.doors(7, 9, 0, 40, 40, 40)));
            same("8 5 0", () -> Look.peace(THREE.make()));
            same("0 10 20 30 40", () -> Look.peace(tenApart()));
            LintelBrothers x = tenApart();
            x.setFrame(3, 0, 25);
            same("0 10 30 20 40", () -> Look.peace(x));
            x.setFrame(0, 11, 40);
            same("20 0 30 10 40", () -> Look.peace(x));
            LintelBrothers six = sixInARow();
            same("1 3 1 3 1 3", () -> Look.peace(six));
            six.setFrame(5, 1, 2);
            same("3 1 3 1 3 1", () -> Look.peace(six));
            six.setFrame(0, 0, 3);
            six.setFrame(5, 0, 3);
            same("0 3 1 3 1 3", () -> Look.peace(six));
        });
        holds("- `door`: the index of a door", () -> {
            for (int door = 0; door < 6; door++) {
                int its = door;
                same(2 + 5 * door, () -> Scenes.doors(2, 40, 7, 40, 12, 40, 17, 40, 22, 40, 27, 40).peaceHeight(its));
            }
        });
        holds("Returns the height.", () -> {
            for (int height : new int[] {0, 1, 9, 10, 39, 40}) {
                same(height, () -> Scenes.doors(height, 40).peaceHeight(0));
                same(height, () -> Scenes.narrowed(height, height).peaceHeight(0));
            }
            same("8 5 0", () -> Look.peace(THREE.then(LintelBrothers::settle).make()));
            same("9 6 0", () -> Look.peace(THREE.then(x -> x.narrow(0, 9, 40)).make()));
            leaves(THREE, x -> x.peaceHeight(0));
        });
        holds("Throws `IndexOutOfBoundsException` if there is no such door", () -> {
            refusesOtherDoors(LintelBrothers::peaceHeight);
            refusesAll(NO_DOOR, Scenes.TORN, outside(0, 1), LintelBrothers::peaceHeight);
        });
        holds("Throws `NoSuchElementException` if there is no peace", () -> {
            refusesAll(NO_PEACE, Scenes.TORN, new int[] {0, 1}, LintelBrothers::peaceHeight);
            Scene low = THREE.then(x -> x.narrow(0, 0, 7));
            refusesAll(NO_PEACE, low, new int[] {0, 1, 2}, LintelBrothers::peaceHeight);
            same(8, () -> THREE.then(x -> x.narrow(0, 0, 8)).make().peaceHeight(0));
        });
    }

    private void peaceSum() {
        holds("Returns the sum of all heights in the first peace.", () -> {
            same(13, () -> THREE.make().peaceSum());
            same(15, () -> THREE.then(x -> x.narrow(0, 9, 40)).make().peaceSum());
            same(100, () -> tenApart().peaceSum());
            same(12, () -> sixInARow().peaceSum());
            leaves(THREE, LintelBrothers::peaceSum);
        });
        holds("Returns the sum.", () -> {
            same("no doors", 0, () -> new LintelBrothers().peaceSum());
            same(0, () -> Scenes.doors(0, 40, 0, 40).peaceSum());
            same(40, () -> Scenes.doors(40, 40).peaceSum());
            same(240, () -> Scenes.doors(40, 40, 40, 40, 40, 40, 40, 40, 40, 40, 40, 40).peaceSum());
        });
        holds("Throws `NoSuchElementException` if there is no peace", () -> {
            refused(NO_PEACE, Scenes.TORN, LintelBrothers::peaceSum);
            refused(NO_PEACE, THREE.then(x -> x.narrow(0, 0, 7)), LintelBrothers::peaceSum);
            same(13, () -> THREE.then(x -> x.narrow(0, 0, 8)).make().peaceSum());
        });
    }

    private void arePossible() {
        holds("Tells whether heights of two doors are possible: whether there is a peace in which they have these "
                + "heights.", () -> {
            for (int number = 0; number < 60; number++) {
                possibleByTrying(new Riddle(number));
            }
            same("a third door leaves no peace", false, () -> THREE.make().arePossible(0, 7, 1, 4));
            same(true, () -> THREE.make().arePossible(0, 8, 1, 5));
            same(false, () -> Scenes.TORN.make().arePossible(0, 5, 1, 7));
            leaves(THREE, x -> x.arePossible(0, 9, 2, 1));
            leaves(Scenes.FULL, x -> x.arePossible(0, 9, 2, 1));
        });
        holds("- `first`: the index of a door", () -> {
            for (int door = 0; door < 6; door++) {
                int its = door;
                LintelBrothers x = Scenes.doors(0, 40, 1, 40, 2, 40, 3, 40, 4, 40, 5, 40);
                same(true, () -> x.arePossible(its, its, 0, 0));
                same(false, () -> x.arePossible(its, its - 1 < 0 ? 1 : its - 1, 0, 0));
            }
        });
        holds("- `height`: the height of this door, 0 to 40",
                () -> heights((x, height) -> x.arePossible(0, height, 1, 20)));
        holds("- `second`: the index of another door, possibly the same", () -> {
            for (int door = 0; door < 6; door++) {
                int its = door;
                LintelBrothers x = Scenes.doors(0, 40, 1, 40, 2, 40, 3, 40, 4, 40, 5, 40);
                same(true, () -> x.arePossible(0, 0, its, its));
                same(false, () -> x.arePossible(0, 0, its, its - 1 < 0 ? 1 : its - 1));
                same("the same door, one height", true, () -> x.arePossible(its, 7, its, 7));
                same("the same door, two heights", false, () -> x.arePossible(its, 7, its, 8));
                same("the same door, two heights", false, () -> x.arePossible(its, 8, its, 7));
            }
            same("the same door in the only peace", true, () -> THREE.make().arePossible(0, 8, 0, 8));
            same("the same door in no peace", false, () -> THREE.make().arePossible(0, 7, 0, 7));
        });
        holds("- `otherHeight`: the height of the other door, 0 to 40",
                () -> heights((x, height) -> x.arePossible(1, 20, 0, height)));
    }

    /** All heights from 0 to 40 are taken, and are possible within the bounds; others are refused. */
    private void heights(Numbered call) {
        Scene wide = () -> Scenes.doors(0, 40, 0, 40);
        Scene narrow = () -> Scenes.narrowed(7, 30, 0, 40);
        for (int height = 0; height <= 40; height++) {
            int its = height;
            same(true, () -> call.with(wide.make(), its));
            same(height >= 7 && height <= 30, () -> call.with(narrow.make(), its));
        }
        for (int height : outside(0, 40)) {
            throwing(NO_HEIGHT, () -> call.with(wide.make(), height));
        }
    }

    /** Doors 0 and 1 of a riddle, with all heights that can matter; the third door takes each of its heights. */
    private void possibleByTrying(Riddle riddle) {
        LintelBrothers x = riddle.object();
        for (int first = 0; first <= Riddle.HEIGHTS; first++) {
            for (int second = 0; second <= Riddle.HEIGHTS; second++) {
                boolean isPossible = false;
                for (int third = 0; third < Riddle.HEIGHTS; third++) {
                    isPossible |= riddle.isPeace(new int[] {first, second, third});
                }
                int height = first;
                int otherHeight = second;
                String what = riddle + ", " + first + " and " + second;
                same(what, isPossible, () -> x.arePossible(0, height, 1, otherHeight));
                same(what, isPossible, () -> x.arePossible(1, otherHeight, 0, height));
            }
        }
    }

    private void arePossibleRefuses() {
        holds("Returns whether there is one.", () -> {
            same(true, () -> Scenes.doors(5, 9).arePossible(0, 5, 0, 5));
            same(true, () -> Scenes.doors(5, 9).arePossible(0, 9, 0, 9));
            same(false, () -> Scenes.doors(5, 9).arePossible(0, 4, 0, 4));
            same(false, () -> Scenes.doors(5, 9).arePossible(0, 10, 0, 10));
            same(true, () -> Scenes.doors(0, 0, 40, 40).arePossible(0, 0, 1, 40));
            same(false, () -> Scenes.doors(0, 0, 40, 40).arePossible(0, 40, 1, 0));
        });
        holds("Throws `IndexOutOfBoundsException` if there is no such door, for first or second", () -> {
            refusesOtherDoors((x, door) -> x.arePossible(door, 1, 0, 1));
            refusesOtherDoors((x, door) -> x.arePossible(0, 1, door, 1));
            refusesOtherDoors((x, door) -> x.arePossible(door, 1, door, 1));
            refusesOtherDoors((x, door) -> x.arePossible(door, 41, 0, 41));
            refusesOtherDoors((x, door) -> x.arePossible(0, -1, door, -1));
        });
        holds("Throws `IllegalArgumentException` if one of the heights is out of range", () -> {
            for (Scene scene : new Scene[] {Scenes.SOME, Scenes.TORN, Scenes.FULL}) {
                refusesAll(NO_HEIGHT, scene, outside(0, 40), (x, height) -> x.arePossible(0, height, 1, 12));
                refusesAll(NO_HEIGHT, scene, outside(0, 40), (x, height) -> x.arePossible(0, 12, 1, height));
                refusesAll(NO_HEIGHT, scene, outside(0, 40), (x, height) -> x.arePossible(1, height, 1, height));
            }
        });
    }
}
