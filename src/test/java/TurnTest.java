/** Promises 11 to 17: swap, turn, backward, greatest, keep, back, like. */
public final class TurnTest {
    private static final Due due = new Due();

    public static void main(String[] args) {
        swap();
        turn();
        backward();
        greatest();
        keepAndBack();
        like();
        whatStays();
        due.end();
    }

    private static void rowIs(String what, ThrowRows x, String row) {
        due.holds(what + ": " + Due.told(x) + " is " + row, Due.told(x).equals(row));
    }

    private static void swap() {
        ThrowRows x = new ThrowRows();
        due.is("11 no pattern", x.swap(0, 1), -1);
        Due.text(x, "7531");
        due.is("11", x.swap(0, 1), 1);
        rowIs("11", x, "6631");
        due.is("11", x.swap(0, 3), 1);
        rowIs("11", x, "4633");
        due.is("11 i above 0", x.swap(1, 3), 1);
        rowIs("11 i above 0", x, "4534");
        due.is("11 and back", x.swap(1, 3), 1);
        rowIs("11 and back", x, "4633");
        due.is("11 alike", x.swap(1, 1), -1);
        due.is("11 turned around", x.swap(3, 1), -1);
        due.is("11 i -1", x.swap(-1, 1), -1);
        due.is("11 j period", x.swap(0, 4), -1);
        due.is("11 far", x.swap(Integer.MIN_VALUE, Integer.MAX_VALUE), -1);
        rowIs("11 refused", x, "4633");
        Due.text(x, "09");
        due.is("11 below 0 ahead of above 9", x.swap(0, 1), -3);
        rowIs("11 refused", x, "09");
        Due.text(x, "19");
        due.is("11 above 9", x.swap(0, 1), -4);
        rowIs("11 refused", x, "19");
        Due.text(x, "18");
        due.is("11 just 0 and 9", x.swap(0, 1), 1);
        rowIs("11 just 0 and 9", x, "90");
        Due.text(x, "2000");
        due.is("11 below 0", x.swap(0, 3), -3);
        due.is("11 not good is fine", x.swap(0, 2), 1);
        rowIs("11", x, "2000");
    }

    private static void turn() {
        ThrowRows x = new ThrowRows();
        due.is("12 outside ahead of state", x.turn(-1), -2);
        due.is("12 outside ahead of state", x.turn(8), -2);
        due.is("12 no pattern", x.turn(0), -3);
        Due.text(x, "7531");
        due.is("12", x.turn(1), 5);
        rowIs("12", x, "5317");
        due.is("12 by 0", x.turn(0), 5);
        rowIs("12 by 0", x, "5317");
        due.is("12 by more than a period", x.turn(7), 7);
        rowIs("12 by more than a period", x, "7531");
        due.is("12 outside", x.turn(8), -2);
        rowIs("12 outside", x, "7531");
        Due.text(x, "543");
        due.is("12 not good is fine", x.turn(2), 3);
        rowIs("12", x, "354");
    }

    private static void backward() {
        ThrowRows x = new ThrowRows();
        due.is("13 no pattern", x.backward(), -3);
        Due.text(x, "543");
        due.is("13 not good", x.backward(), -3);
        rowIs("13 not good", x, "543");
        Due.text(x, "7531");
        due.is("13", x.backward(), 7);
        rowIs("13", x, "7531");
        Due.text(x, "450");
        due.is("13", x.backward(), 0);
        rowIs("13", x, "045");
        Due.text(x, "0134");
        due.is("13", x.backward(), 4);
        rowIs("13", x, "4130");
        Due.text(x, "52512");
        due.is("13", x.backward(), 1);
        rowIs("13", x, "12525");
        due.is("13 and once more", x.backward(), 5);
        rowIs("13 and once more", x, "52512");
    }

    private static void greatest() {
        ThrowRows x = new ThrowRows();
        due.is("14 no pattern", x.greatest(0), -1);
        greatestIs("135", "513");
        greatestIs("51252", "52512");
        greatestIs("45", "54");
        greatestIs("0", "0");
        greatestIs("33333333", "33333333");
        greatestIs("91919092", "92919190");
    }

    private static void greatestIs(String text, String form) {
        ThrowRows x = Due.with(text);
        for (int beat = 0; beat < form.length(); beat++) {
            due.is("14 " + text + " greatest " + beat, x.greatest(beat), form.charAt(beat) - '0');
        }
        due.is("14 beyond", x.greatest(form.length()), -1);
        due.is("14 -1", x.greatest(-1), -1);
        rowIs("14 changes nothing", x, text);
    }

    private static void keepAndBack() {
        ThrowRows x = new ThrowRows();
        due.is("15 unknown ahead of state", x.keep(-1), -1);
        due.is("15 unknown ahead of state", x.keep(3), -1);
        due.is("15 no pattern", x.keep(0), -3);
        due.is("16 unknown ahead of state", x.back(-1), -1);
        due.is("16 unknown ahead of state", x.back(3), -1);
        due.is("16 no image", x.back(0), -3);
        Due.text(x, "531");
        due.is("15", x.keep(0), 1);
        Due.text(x, "88");
        due.is("15", x.keep(2), 1);
        due.is("35 images", x.many(2), 2);
        due.is("16 no image", x.back(1), -3);
        rowIs("16 no image", x, "88");
        due.is("16", x.back(0), 3);
        rowIs("16", x, "531");
        x.turn(1);
        due.is("16 the image has not turned", x.back(0), 3);
        rowIs("16 the image has not turned", x, "531");
        due.is("16", x.back(2), 2);
        rowIs("16", x, "88");
        due.is("15 over an old one", x.keep(0), 1);
        due.is("35 images", x.many(2), 2);
        due.is("16", x.back(0), 2);
        Due.text(x, "543");
        due.is("15 not good is fine", x.keep(1), 1);
        due.is("16 not good is fine", x.back(1), 3);
    }

    private static void like() {
        ThrowRows x = new ThrowRows();
        due.is("17 unknown ahead of state", x.like(-1), -1);
        due.is("17 unknown ahead of state", x.like(3), -1);
        due.is("17 none", x.like(0), -3);
        Due.text(x, "52512");
        due.is("17 no image", x.like(0), -3);
        x.keep(0);
        due.is("17 itself", x.like(0), 1);
        x.turn(3);
        due.is("17 turned", x.like(0), 1);
        x.backward();
        due.is("17 backward, which is turned", x.like(0), 1);
        Due.text(x, "0134");
        x.keep(0);
        x.backward();
        due.is("17 backward", x.like(0), 0);
        Due.text(x, "0143");
        due.is("17 the same throws in another order", x.like(0), 0);
        Due.text(x, "3934");
        x.keep(0);
        Due.text(x, "4393");
        due.is("17 both not in their greatest form", x.like(0), 1);
        Due.text(x, "4383");
        due.is("17 unlike in the greatest throw alone", x.like(0), 0);
        Due.text(x, "33");
        x.keep(1);
        Due.text(x, "3");
        due.is("17 of another period", x.like(1), 0);
        due.is("17 no image", x.like(2), -3);
    }

    private static void whatStays() {
        ThrowRows x = Due.with("7531");
        x.keep(0);
        x.hands(3);
        x.drop(6);
        x.kind(1, 2);
        x.swap(0, 1);
        x.turn(1);
        x.backward();
        x.back(0);
        due.is("16 hands stay", x.many(1), 3);
        due.is("16 drops stay", x.drop(6), 6);
        due.is("16 kinds stay", x.kind(1, 2), 2);
    }
}
