/** A text of all that can be seen of an object without a change of it. */
final class Look {
    private Look() {
    }

    static String at(LintelBrothers x) {
        return atData(x)
                + " rejection " + Check.answer(x::rejectionReason) + " " + Check.answer(x::rejectionDetail)
                + " " + Check.answer(x::causeReason);
    }

    /** All but the latest rejection. */
    static String atData(LintelBrothers x) {
        StringBuilder seen = new StringBuilder();
        for (int door = 0; door < x.doorCount(); door++) {
            seen.append(x.lowOf(door)).append('-').append(x.highOf(door)).append(" in ");
            seen.append(x.frameLow(door)).append('-').append(x.frameHigh(door)).append(", ");
        }
        for (int position = 0; position < x.constraintCount(); position++) {
            int id = x.constraintAt(position);
            seen.append(id).append(':').append(x.firstOf(id)).append(x.kindOf(id)).append(x.secondOf(id));
            seen.append('+').append(x.gapOf(id)).append(", ");
        }
        seen.append("passes ").append(x.passCount()).append(" changes ").append(x.changeCount());
        seen.append(" syntax ").append(Check.answer(x::syntaxErrorOffset));
        return seen.append(" output ").append(output(x)).toString();
    }

    static String output(LintelBrothers x) {
        StringBuilder output = new StringBuilder();
        for (int index = 0; index < 100; index++) {
            int at = index;
            Object sign = Check.answer(() -> x.outputAt(at));
            if (!(sign instanceof Character)) {
                return output.toString();
            }
            output.append(sign);
        }
        return output.toString();
    }
}
