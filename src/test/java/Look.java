/** Texts of what can be asked of an object. */
final class Look {
    private Look() {
    }

    /** The doors, the constraints and the counts. */
    static String data(LintelBrothers x) {
        StringBuilder seen = new StringBuilder();
        for (int door = 0; door < x.doorCount(); door++) {
            seen.append(bounds(x, door)).append(" in ");
            seen.append(x.frameLow(door)).append('-').append(x.frameHigh(door)).append(", ");
        }
        for (int position = 0; position < x.constraintCount(); position++) {
            int id = x.constraintAt(position);
            seen.append(id).append(':').append(x.firstOf(id)).append(x.kindOf(id)).append(x.secondOf(id));
            seen.append('+').append(x.gapOf(id)).append(", ");
        }
        return seen.append("passes ").append(x.passCount()).append(", changes ").append(x.changeCount()).toString();
    }

    static String bounds(LintelBrothers x, int door) {
        return x.lowOf(door) + "-" + x.highOf(door);
    }

    /** The bounds of all doors, with a space between two of them. */
    static String allBounds(LintelBrothers x) {
        StringBuilder seen = new StringBuilder();
        for (int door = 0; door < x.doorCount(); door++) {
            seen.append(door > 0 ? " " : "").append(bounds(x, door));
        }
        return seen.toString();
    }

    /** The ids of all constraints in their order. */
    static String ids(LintelBrothers x) {
        StringBuilder seen = new StringBuilder();
        for (int position = 0; position < x.constraintCount(); position++) {
            seen.append(position > 0 ? " " : "").append(x.constraintAt(position));
        }
        return seen.toString();
    }

    static String output(LintelBrothers x) {
        StringBuilder output = new StringBuilder();
        for (int index = 0; index < 30; index++) {
            int at = index;
            Object sign = Check.answer(() -> x.outputAt(at));
            if (!(sign instanceof Character)) {
                return output.toString();
            }
            output.append(sign);
        }
        return output.toString();
    }

    static String rejection(LintelBrothers x) {
        return Check.answer(x::rejectionReason) + " " + Check.answer(x::rejectionDetail);
    }

    /** The heights of the first peace, with a space between two of them. */
    static String peace(LintelBrothers x) {
        StringBuilder seen = new StringBuilder();
        for (int door = 0; door < x.doorCount(); door++) {
            int at = door;
            seen.append(door > 0 ? " " : "").append(Check.answer(() -> x.peaceHeight(at)));
        }
        return seen.toString();
    }
}
