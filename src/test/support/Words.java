/** Texts that the boundary tests share. */
abstract class Words {
  static final int NONE = Bench.NONE;
  static final String P3 = Bench.P3;
  /** Five KINDS, told in texts of the same length. */
  static final String FIVE = "kind a rest 1 gas 0;kind b rest 2 gas 0;kind c rest 3 gas 0;kind d rest 4 gas 0;kind e rest 5 gas 0;";
  static final String TEN = "mix a b;mix a c;mix a d;mix a e;mix b c;mix b d;mix b e;mix c d;mix c e;mix d e;";
  static final String OWN = "pit at kind rest gas row house mix may worth tilt holds props leans depth across near span open fallen "
      + "whole number tubs or and not all min max";
}
