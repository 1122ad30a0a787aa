/** "NARROW", seen through the values of literals and of calls. */
public final class PartNarrow {
  private static final int MIN = Integer.MIN_VALUE;
  private static final int MAX = Integer.MAX_VALUE;

  public static void main(String[] args) {
    Check.sentence("t 1 or 7: (byte)v", PartNarrow::bytes);
    Check.sentence("t 2 or 8: (short)v", PartNarrow::shorts);
    Check.sentence("t 3 or 9: v & 0xFFFF", PartNarrow::chars);
    Check.sentence("t 4 or 10: (int)v", PartNarrow::ints);
    Check.sentence("t 6 or 12: v & 1", PartNarrow::booleans);
    Check.sentence("t 5, 11, 13 or 14: v unchanged.", PartNarrow::unchanged);
    Check.sentence("All results are sign-extended back to long", PartNarrow::signs);
    Check.sentence("arithmetic wraps as Java long arithmetic does", PartNarrow::noEarlierWrap);
    Check.end();
  }

  /** A sum of n times the value, with the value once as the constant: n from 1 (no argument) to 5. */
  private static long valueOf(int type, int value, int n) {
    OverloadPicker x = new OverloadPicker(2, 8);
    x.addMethod(0, 0xE, 16 + type, value);
    x.addCall(0, n - 1);
    for (int i = 1; i < n; i++) {
      x.addLiteral(14, value);
    }
    Check.due("resolve()", x.resolve(), OverloadPicker.OK);
    return x.nodeValue(0);
  }

  private static void call(int type, int value, int n, long due) {
    Check.due("a call of type " + type + " of " + n + " times " + value, valueOf(type, value, n), due);
  }

  private static void literal(int type, int value, long due) {
    OverloadPicker x = new OverloadPicker(2, 4);
    x.addLiteral(type, value);
    x.resolve();
    Check.due("a literal of type " + type + " of " + value, x.nodeValue(0), due);
  }

  /** As a literal, and as a call's constant. */
  private static void both(int type, int value, long due) {
    literal(type, value, due);
    call(type, value, 1, due);
  }

  private static void bytes() {
    for (int type : new int[] {1, 7}) {
      int[] given = {0, 127, 128, 255, 256, -1, -128, -129, MIN, MAX};
      long[] due = {0, 127, -128, -1, 0, -1, -128, 127, 0, -1};
      for (int i = 0; i < given.length; i++) {
        both(type, given[i], due[i]);
      }
      call(type, 64, 2, -128);
      call(type, MAX, 3, -3);
      call(type, MIN + 1, 5, 5);
    }
  }

  private static void shorts() {
    for (int type : new int[] {2, 8}) {
      int[] given = {0, 128, 32767, 32768, 65535, 65536, -1, -32768, -32769, MIN, MAX};
      long[] due = {0, 128, 32767, -32768, -1, 0, -1, -32768, 32767, 0, -1};
      for (int i = 0; i < given.length; i++) {
        both(type, given[i], due[i]);
      }
      call(type, 16384, 2, -32768);
      call(type, MAX, 3, -3);
      call(type, MIN + 1, 5, 5);
    }
  }

  private static void chars() {
    for (int type : new int[] {3, 9}) {
      int[] given = {0, 32768, 65535, 65536, 65537, -1, -32768, -65536, MIN, MAX};
      long[] due = {0, 32768, 65535, 0, 1, 65535, 32768, 0, 0, 65535};
      for (int i = 0; i < given.length; i++) {
        both(type, given[i], due[i]);
      }
      call(type, 32768, 2, 0);
      call(type, MAX, 3, 65533);
      call(type, MIN + 1, 5, 5);
      call(type, MIN, 5, 0);
    }
  }

  private static void ints() {
    for (int type : new int[] {4, 10}) {
      for (int value : new int[] {0, 1, -1, 65536, MIN, MAX}) {
        both(type, value, value);
      }
      call(type, 1 << 30, 2, MIN);
      call(type, MAX, 2, -2);
      call(type, MIN, 2, 0);
      call(type, MIN, 3, MIN);
      call(type, MAX, 5, 2147483643);
    }
  }

  private static void booleans() {
    for (int type : new int[] {6, 12}) {
      int[] given = {0, 1, 2, 3, -1, -2, MIN, MAX};
      long[] due = {0, 1, 0, 1, 1, 0, 0, 1};
      for (int i = 0; i < given.length; i++) {
        both(type, given[i], due[i]);
      }
      call(type, 1, 2, 0);
      call(type, MAX, 3, 1);
      call(type, MAX, 4, 0);
    }
  }

  private static void unchanged() {
    for (int type : new int[] {5, 11, 13, 14}) {
      for (int value : new int[] {0, 1, -1, 128, 32768, 65536, MIN, MAX}) {
        both(type, value, value);
      }
      call(type, 1 << 30, 2, 2147483648L);
      call(type, MIN, 2, -4294967296L);
      call(type, MAX, 5, 10737418235L);
    }
  }

  private static void signs() {
    for (int type = 1; type <= 14; type++) {
      boolean character = type == 3 || type == 9;
      boolean truth = type == 6 || type == 12;
      both(type, -1, character ? 65535L : truth ? 1L : -1L);
    }
    // A sum that is negative in its lower bits alone.
    call(1, 0xC0, 1, -64L);
    call(2, 0xC000, 1, -16384L);
    call(4, 0x60000000, 2, -1073741824L);
  }

  /** The range of long is out of reach of 32 nodes, so what is due is a sum that does not wrap as an int does. */
  private static void noEarlierWrap() {
    for (int n = 1; n <= 5; n++) {
      call(5, MAX, n, (long) n * MAX);
      call(14, MIN, n, (long) n * MIN);
    }
    chain(MAX);
    chain(MIN);
  }

  /** The greatest sum there is: 31 calls, one within the other, and the literal. */
  private static void chain(int value) {
    OverloadPicker x = new OverloadPicker(2, 32);
    x.addMethod(0, 0x5, 5, value);
    for (int i = 0; i < 31; i++) {
      x.addCall(0, 1);
    }
    x.addLiteral(5, value);
    Check.due("resolve()", x.resolve(), OverloadPicker.OK);
    for (int i = 0; i < 32; i++) {
      Check.due("nodeValue(" + i + ")", x.nodeValue(i), (32L - i) * value);
    }
  }
}
