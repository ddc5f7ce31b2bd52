import java.util.ArrayList;
import java.util.List;

/** All that can be seen of an object, as lines; it is used up by that (about 300 calls). */
final class Portrait {
    private final BackSeat x;
    private final List<String> lines = new ArrayList<>();

    private Portrait(BackSeat x) {
        this.x = x;
    }

    static List<String> of(BackSeat x) {
        Portrait p = new Portrait(x);
        p.seeCoach();
        p.seeSheets();
        p.seeTape();
        p.seeTexts();
        p.seeImage();
        p.seeItems();
        p.seeSizes();
        return p.lines;
    }

    private void line(String call, long answer) {
        lines.add(call + " answers " + answer);
    }

    private void seeCoach() {
        line("told(0, 0)", x.told(0, 0));
        line("told(0, 1)", x.told(0, 1));
        for (int what = 0; what < 5; what++) {
            line("count(" + what + ")", x.count(what));
        }
        for (int one = 0; one < 8; one++) {
            for (int what = 2; what < 10; what++) {
                line("told(" + one + ", " + what + ")", x.told(one, what));
            }
        }
        for (int seat = 0; seat < 24; seat++) {
            line("who(" + seat + ")", x.who(seat));
        }
        for (int what = 0; what < 3; what++) {
            line("all(" + what + ")", x.all(what));
        }
        line("ride(60, 0)", x.ride(60, 0));
    }

    private void seeSheets() {
        for (int sheet = 0; sheet < 4; sheet++) {
            line("the sort of " + sheet, sortOf(sheet));
            line("tells(" + sheet + ", 0)", x.tells(sheet, 0));
        }
    }

    private int sortOf(int sheet) {
        for (int sort = 0; sort < 3; sort++) {
            if (x.passengers(sheet, sort, 0, 0) == 0) {
                return sort;
            }
        }
        return -1;
    }

    /** THE TAPE's bytes show in what it is with the rest of a text behind. */
    private void seeTape() {
        String rest = ";turns 3;joys 2;";
        for (int i = 0; i < rest.length(); i++) {
            line("feed", x.feed(rest.charAt(i)));
        }
        line("text()", x.text());
    }

    private void seeTexts() {
        for (int text = 0; text < 6; text++) {
            line("force(" + text + ")", x.force(text));
            line("all(0) by it", x.all(0));
            line("all(1) by it", x.all(1));
            line("ride(9, 0) by it", x.ride(9, 0));
        }
    }

    private void seeImage() {
        line("back()", x.back());
        line("told(0, 0) of the image", x.told(0, 0));
        line("told(0, 1) of the image", x.told(0, 1));
        line("count(4) of the image", x.count(4));
        for (int one = 0; one < 8; one++) {
            line("NUMBER of " + one + " in the image", x.told(one, 2));
            line("FRIEND of " + one + " in the image", x.told(one, 3));
            line("SEAT of " + one + " in the image", x.told(one, 5));
        }
    }

    /** The items of a SHEET show in the PASSENGERS who come by it. */
    private void seeItems() {
        for (int sheet = 0; sheet < 4; sheet++) {
            int sort = sortOf(sheet);
            line("passengers by " + sheet, x.passengers(sheet, sort, 0, 8));
            for (int one = 0; one < 8; one++) {
                line("NUMBER of " + one + " by " + sheet, x.told(one, 2));
                line("KIND of " + one + " by " + sheet, x.told(one, 4));
            }
            line("back()", x.back());
        }
    }

    private void seeSizes() {
        for (int sheet = 0; sheet < 4; sheet++) {
            for (int i : new int[] {0, 3, 4, 5, 6, 11, 12, 39, 40}) {
                line("cell(" + sheet + ", " + i + ", 0)", x.cell(sheet, i, 0));
            }
        }
    }
}
