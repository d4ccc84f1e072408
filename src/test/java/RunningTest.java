/** Running bodies in promise 4, with promise 6 (steps) for every word that is or is not a step. */
public final class RunningTest {
    private static final String LEAST = "-1 31 lshift";

    public static void main(String[] args) {
        branches();
        beginLoops();
        countedLoops();
        exits();
        recursion();
        bodiesInOneAnother();
        loopsInAll();
        stepsOfEachWord();
        stepLimit();
        Desk.end();
    }

    private static void branches() {
        new Desk().leaves(": a if 1 then 9 ; 0 a -1 a 5 a", 9, 1, 9, 1, 9);
        new Desk().leaves(": a if 1 else 2 then 9 ; 0 a 7 a", 2, 9, 1, 9);
        new Desk().leaves(": a if if 1 else 2 then else if 3 else 4 then then ; 1 1 a 0 1 a 1 0 a 0 0 a", 1, 2, 3, 4);
        new Desk().meets(": b if 1 then ; b", 3, 6, 1);
    }

    private static void beginLoops() {
        new Desk().leaves(": a begin dup . 1 - dup 0= until ; 3 a", 0);
        new Desk().leaves(": a begin dup while dup 1 - repeat ; 3 a", 3, 2, 1, 0);
        new Desk().leaves(": a begin 1 - dup 0= if exit then again ; 5 a", 0);
        new Desk().leaves(": a begin begin 1 - dup 3 mod 0= until dup 0= until ; 8 a", 0);
        new Desk().leaves(": a begin dup 5 < while 1 + repeat ; 0 a", 5);
        new Desk().meets(": a begin until ; a", 3, 5, 1);
        new Desk().meets(": a begin while repeat ; 1 a", 3, 7, 4);
        new Desk().leaves(": a 1 0 begin until ; a");
    }

    private static void countedLoops() {
        new Desk().leaves(": a do i loop ; 3 0 a", 0, 1, 2);
        new Desk().leaves(": a do i loop ; 1 -2 a", -2, -1, 0);
        new Desk().leaves(": a do do i loop i loop ; 9 7 3 2 a", 7, 8, 2);
        new Desk().leaves(": a 2 0 do 12 10 do i loop i loop ; a", 10, 11, 0, 10, 11, 1);
        new Desk().leaves(": a do i loop ; " + LEAST + " dup 2 - a", Integer.MAX_VALUE - 1, Integer.MAX_VALUE);
        new Desk().leaves(": a do i loop ; " + LEAST + " 1 + " + LEAST + " 1 - a", Integer.MAX_VALUE, Integer.MIN_VALUE);
        new Desk().meets(": a do loop ; 0 0 a", 8, 7, 1000);
        new Desk().meets(": a do loop ; 0 1 a", 8, 7, 1000);
        new Desk().meets(": a do loop ; 1 a", 3, 6, 2);
        new Desk().leaves(": b 5 3 do i loop ; : a 2 0 do b i loop ; a", 3, 4, 0, 3, 4, 1);
    }

    private static void exits() {
        new Desk().leaves(": a 1 exit 2 ; a 3", 1, 3);
        new Desk().leaves(": a 9 0 do 9 0 do i 2 = if i exit then loop loop ; : b 5 3 do a i loop ; b", 2, 3, 2, 4);
        new Desk().leaves(": a exit ; a a");
        String loops = ": a 9 0 do 9 0 do exit loop loop ; : b 7 0 do a loop ; b b b";
        new Desk().leaves(loops);
    }

    private static void recursion() {
        new Desk().leaves(": fac dup 1 > if dup 1 - recurse * then ; 5 fac 1 fac 0 fac", 120, 1, 0);
        new Desk().leaves(": a dup if dup 1 - recurse then ; 11 a", 11, 10, 9, 8, 7, 6, 5, 4, 3, 2, 1, 0);
        new Desk().meets(": a dup if dup 1 - recurse then ; 12 a", 7, 11);
        new Desk().leaves(": f 1 ; : f dup 0= if f else drop 0 recurse then ; 4 f", 0, 1);
    }

    private static void bodiesInOneAnother() {
        String chain = ": a1 ; : a2 a1 ; : a3 a2 ; : a4 a3 ; : a5 a4 ; : a6 a5 ; : a7 a6 ; : a8 a7 ; : a9 a8 ; "
            + ": b0 a9 ; : b1 b0 ; : b2 b1 ; : b3 b2 ; ";
        new Desk().makes(chain + "b2", 24);
        new Desk().meets(chain + "b2 b3", 7, 52, 36);
        Desk d = new Desk().meets(": r recurse ; 1 2 r", 7, 6, 14);
        Desk.due("value(0)", d.forge.value(0), Desk.NONE);
    }

    private static void loopsInAll() {
        String eight = Desk.times(8, "1 0 do");
        String four = Desk.times(4, "1 0 do");
        String nest = ": a " + eight + Desk.times(8, "loop") + "; ";
        String twelve = nest + ": b " + four + "a " + Desk.times(4, "loop") + "; ";
        new Desk().makes(twelve + "b", 1 + 3 * 4 + (1 + 3 * 8 + 8 + 1) + 4 + 1);
        String innermost = ": a " + Desk.times(7, "1 0 do") + "9 6 do i loop " + Desk.times(7, "loop") + "; ";
        new Desk().leaves(innermost + ": b " + four + "a " + Desk.times(4, "loop") + "; b", 6, 7, 8);
        String thirteen = twelve + ": c 1 0 do b loop ; ";
        new Desk().meets(thirteen + "c", 7, thirteen.split(" ").length, 1 + 3 + 1 + 3 * 4 + 1 + 3 * 7 + 2);
        new Desk().meets(": r 1 0 do recurse loop ; r", 7, 8, 1 + 3 * 12 + 11);
        new Desk().meets(": r 1 0 do 1 0 do recurse loop loop ; r", 7, 12, 1 + 6 * 7 + 2);
        // With twelve loops open, a do without values still tells 3 before 7.
        String deep = ": e do loop ; : a " + eight + "e " + Desk.times(8, "loop") + "; ";
        String bare = deep + ": b " + four + "a " + Desk.times(4, "loop") + "; ";
        new Desk().meets(bare + "b", 3, bare.split(" ").length);
        new Desk().meets(bare + "5 b", 3, bare.split(" ").length + 1);
        new Desk().meets(bare + "5 6 b", 7, bare.split(" ").length + 2);
    }

    private static void stepsOfEachWord() {
        new Desk().makes("", 0).makes("1", 1).makes("dup", 1).makes(": a ;", 0).makes("a", 2).makes("forget a", 0);
        new Desk().makes(": a 1 2 + ; a", 5);
        new Desk().makes(": a if 1 else 2 then ; 0 a", 5).makes("1 a", 5);
        new Desk().makes(": a if 1 then ; 0 a", 4).makes("1 a", 5);
        new Desk().makes(": a begin 1 until ; a", 4);
        new Desk().makes(": a begin 0= dup until ; 1 a", 1 + 1 + 3 * 2 + 1);
        new Desk().makes(": a begin ?dup while 1 - repeat ; 0 a", 1 + 1 + 2 + 1);
        new Desk().makes(": a begin ?dup while 1 - repeat ; 2 a", 1 + 1 + 2 * 5 + 2 + 1);
        new Desk().makes(": a do i loop ; 3 0 a", 2 + 1 + 1 + 3 * 2 + 1);
        new Desk().makes(": a exit 1 2 ; a", 2);
        new Desk().makes(": a begin 1 if exit then again ; a", 4);
        new Desk().makes(": a begin if exit then again ; 1 0 a", 2 + 1 + 1 + 1 + 1 + 1);
        new Desk().makes(": a if 0 recurse then ; 1 a", 2 + 3 + 1 + 1 + 1);
        new Desk().makes(": a begin begin begin 1 until 1 until 1 until ; a", 1 + 6 + 1);
        new Desk().makes("1 2 + . : b 1 . ; b", 4 + 4);
    }

    private static void stepLimit() {
        // A round of begin 1 drop again makes three steps.
        new Desk().meets(": a begin 1 drop again ; 7 a", 8, 8, 1000);
        new Desk().meets(": a begin again ; a 1 2 3", 8, 5, 1000);
        // Two numbers, the name, the do and its 995 rounds are 999 steps, and the end is the 1000th.
        String loop = ": a 0 do loop ; ";
        new Desk().makes(loop + "995 a", 1 + 1 + 1 + 1 + 995 + 1);
        new Desk().meets(loop + "996 a", 8, 7, 1000);
        new Desk().meets(loop + "995 a 1", 8, 8, 1000);
        new Desk().meets(loop + "995 a +", 8, 8, 1000);
        new Desk().meets(loop + "995 a a", 8, 8, 1000);
        new Desk().meets(loop + "995 a zz", 1, 8, 1000);
        new Desk().meets(loop + "995 a if", 1, 8, 1000);
        new Desk().makes(loop + "995 a : b ; forget b", 1000);
        new Desk().makes(loop + "994 a 1", 1000);
        Desk d = new Desk().meets(loop + "996 a", 8, 7, 1000);
        d.makes("1", 1);
        d.makes("2 3", 2);
        d.holds("a new loading counts anew", 1, 2, 3);
    }
}
