/** "Type list encoding", seen through the params of addMethod and the args of pick. */
public final class PartTypeLists {
  private static final int[] NEGATIVE = {
    -1, Integer.MIN_VALUE, Integer.MIN_VALUE + 4, 0x80004444, 0x84444444, 0xE4444444, 0xEEEEEEEE, 0xF0000000, -4, -16, -0x4444
  };

  public static void main(String[] args) {
    Check.sentence("Nibble i is bits 4i..4i+3, for i = 0..7.", PartTypeLists::eightNibbles);
    Check.sentence("The length n is the number of nonzero nibbles before the first zero nibble, counting from nibble 0.",
        PartTypeLists::lengths);
    Check.sentence("n <= 4", PartTypeLists::atMostFour);
    Check.sentence("every nibble after the first zero nibble is zero", PartTypeLists::noGaps);
    Check.sentence("every nonzero nibble is in 1..14", PartTypeLists::typesOnly);
    Check.sentence("Type i (1-based) is nibble i-1.", PartTypeLists::firstTypeLowest);
    Check.sentence("The value 0 is the empty list.", PartTypeLists::zeroIsEmpty);
    Check.sentence("Any negative int is invalid.", PartTypeLists::negativeIsInvalid);
    Check.sentence("The encoding is valid iff all of these hold", PartTypeLists::everyShortList);
    Check.end();
  }

  private static void valid(int list, boolean due) {
    String hex = "(0x" + Integer.toHexString(list) + ")";
    OverloadPicker x = new OverloadPicker(2, 4);
    Check.due("pick takes " + hex, x.pick(0, list) != OverloadPicker.REFUSED, due);
    Check.due("addMethod takes " + hex, x.addMethod(0, list, 4, 0) != OverloadPicker.REFUSED, due);
    if (due) {
      Check.picked(x, 0, list, 0, 1);
    }
  }

  private static void eightNibbles() {
    for (int nibble = 0; nibble < 8; nibble++) {
      for (int bit = 0; bit < 4; bit++) {
        // Over four valid types: bits 0 to 15 turn one into another or into a gap, the higher ones stand alone.
        int type = 4 ^ 1 << bit;
        valid(0x4444 ^ 1 << 4 * nibble + bit, nibble < 4 && (type != 0 || nibble == 3));
      }
    }
  }

  private static void lengths() {
    OverloadPicker x = new OverloadPicker(16, 32);
    int[] lists = {0, 0xE, 0xEE, 0xEEE, 0xEEEE};
    for (int n = 0; n <= 4; n++) {
      Check.due("addMethod of length " + n, x.addMethod(0, lists[n], 4, 0), n);
    }
    for (int n = 0; n <= 4; n++) {
      Check.picked(x, 0, lists[n], n, 1);
    }
  }

  private static void atMostFour() {
    valid(0x1111, true);
    valid(0xEEEE, true);
    for (int list : new int[] {0x11111, 0xE1111, 0x111111, 0x1111111, 0x11111111, 0x7EEEEEEE, 0xEEEEE}) {
      valid(list, false);
    }
  }

  private static void noGaps() {
    for (int before = 0; before < 4; before++) {
      int list = 0x4444 & (1 << 4 * before) - 1;
      valid(list, true);
      for (int nibble = before + 1; nibble < 8; nibble++) {
        valid(list | 1 << 4 * nibble, false);
        valid(list | 7 << 4 * nibble, false);
      }
    }
    for (int nibble = 5; nibble < 8; nibble++) {
      valid(0x4444 | 1 << 4 * nibble, false);
    }
  }

  private static void typesOnly() {
    for (int nibble = 0; nibble < 4; nibble++) {
      int rest = 0x4444 & ~(15 << 4 * nibble);
      valid(rest | 1 << 4 * nibble, true);
      valid(rest | 14 << 4 * nibble, true);
      valid(rest | 15 << 4 * nibble, false);
    }
    for (int list : new int[] {0xF, 0xFF, 0xF4, 0x4F, 0xFFFF}) {
      valid(list, false);
    }
  }

  private static void firstTypeLowest() {
    OverloadPicker x = new OverloadPicker(2, 8);
    x.addMethod(0, 0x6D31, 4, 0);
    Check.picked(x, 0, 0x6D31, 0, 1);
    Check.picked(x, 0, 0x13D6, OverloadPicker.NO_MATCH, 0);
    x.addCall(0, 4);
    x.addLiteral(1, 0);
    x.addLiteral(3, 0);
    x.addLiteral(13, 0);
    x.addLiteral(6, 0);
    Check.due("resolve()", x.resolve(), OverloadPicker.OK);
  }

  private static void zeroIsEmpty() {
    OverloadPicker x = new OverloadPicker(2, 4);
    Check.picked(x, 0, 0, OverloadPicker.NO_MATCH, 0);
    Check.due("addMethod without parameters", x.addMethod(0, 0, 4, 9), 0);
    Check.picked(x, 0, 0, 0, 1);
    Check.picked(x, 0, 0x4, OverloadPicker.NO_MATCH, 0);
    x.addCall(0, 0);
    Check.due("resolve()", x.resolve(), OverloadPicker.OK);
  }

  private static void negativeIsInvalid() {
    for (int list : NEGATIVE) {
      valid(list, false);
    }
    for (int low = 0; low <= 0xFFFF; low += 0x11) {
      valid(Integer.MIN_VALUE | low, false);
    }
  }

  /** Every int of 16 bits, by its digits; and with each higher bit, which no valid list has. */
  private static void everyShortList() {
    OverloadPicker x = new OverloadPicker(2, 4);
    for (int list = 0; list <= 0xFFFF; list++) {
      boolean due = Integer.toHexString(list).matches("0|[1-9a-e]+");
      Check.due("pick takes 0x" + Integer.toHexString(list), x.pick(0, list) != OverloadPicker.REFUSED, due);
      for (int bit = 16; bit < 32; bit++) {
        int longer = list | 1 << bit;
        Check.refused("pick of 0x" + Integer.toHexString(longer), x.pick(0, longer));
      }
    }
  }
}
