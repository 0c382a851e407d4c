import java.lang.annotation.Retention;
import java.lang.annotation.RetentionPolicy;
import java.util.ArrayList;
import java.util.List;
import java.util.function.Supplier;

/** What the tests of boundary cases share; BoundaryTest runs them. */
abstract class Bounds {
    static final int BAD = -1001, FULL = -1002, STATE = -1003, NONE = -1, MIXED = -2;
    static final int LEAST = Integer.MIN_VALUE, MOST = Integer.MAX_VALUE;

    /** The words of the document to which a test holds the class. */
    @Retention(RetentionPolicy.RUNTIME)
    @interface Says {
        String value();
    }

    interface Call {
        long on(DecoderForge x);
    }

    static String test = "";
    static int asked = 0;
    static int wrong = 0;

    static void due(String what, long got, long want) {
        asked++;
        if (got != want) {
            wrong++;
            System.out.println(test + ": " + what + " answered " + got + ", due is " + want);
        }
    }

    // ---- objects to ask

    static DecoderForge feed(DecoderForge x, String s) {
        for (int i = 0; i < s.length(); i += 8) {
            int n = Math.min(8, s.length() - i);
            long bytes = 0;
            for (int k = n - 1; k >= 0; k--) bytes = bytes << 8 | s.charAt(i + k);
            x.feed(bytes, n);
        }
        return x;
    }

    static int text(DecoderForge x, String s) {
        return feed(x, s).text();
    }

    static int read(DecoderForge x, String s) {
        return feed(x, s).read();
    }

    static DecoderForge with(String s) {
        DecoderForge x = new DecoderForge();
        if (!s.isEmpty() && text(x, s) < 0) throw new IllegalStateException("not a text: " + s);
        return x;
    }

    /** So many forms with names a, b, .. and one and the same kind and pattern. */
    static String alike(int forms, char kind, String pattern) {
        StringBuilder s = new StringBuilder();
        for (int i = 0; i < forms; i++) {
            s.append(i == 0 ? "" : ";").append(kind).append((char) ('a' + i)).append(':').append(pattern);
        }
        return s.toString();
    }

    static String line(DecoderForge x, int word) {
        int n = x.write(word);
        StringBuilder out = new StringBuilder();
        for (int i = 0; i < n; i++) out.append((char) x.written(i));
        return out.toString();
    }

    /** Words 0x100 on mean 0, 0x200 1 and so on; 0x800 7 and 8 (MIXED), 0xA00 7, 0xC00 8, 0 and 0xE00 NONE. */
    static final String WORLD = "padd:0001wwwwXXXX;jgo:0010WWWWWWWW;lld:0011xxxxyyyy,x/2;ccal:0100WWWWWWWW;"
            + "sst:0101........;tt:0110........;gg:0111ZZZZ.ww.;pa:10..........;pb:1.0.........";

    /** An object in which there is something of everything: 9 forms, deeds of all sorts, an image, a line, a tape. */
    static DecoderForge world() {
        DecoderForge x = with(WORLD);
        x.put(0, 0x131);
        x.put(1, 0x202);
        x.put(3, 0x342);
        x.put(4, 0x500);
        x.hold(0, 7);
        x.hold(5, -2);
        x.run(0, 4);
        x.image();
        for (int i = 0; i < 12; i++) x.put(20 + i % 4, 0x100 + i);
        x.copy(0, 8, 5);
        x.hold(4, -7);
        x.run(20, 3);
        x.write(0x1F8);
        return feed(x, "add 5 -3");
    }

    /** All that an object tells but its refusals; it is used up by that. */
    static List<Long> tale(DecoderForge x) {
        List<Long> told = new ArrayList<>();
        for (int what = 0; what < 5; what++) told.add((long) x.count(what));
        for (int i = 0; i < 32; i++) told.add((long) x.cell(i));
        for (int i = 0; i < 32; i++) told.add((long) x.order(i));
        for (int i = 0; i < 12; i++) told.add((long) x.written(i));
        int forms = x.count(0);
        for (int f = 0; f < forms; f++) {
            for (int what = 0; what < 6; what++) told.add((long) x.formOf(f, what));
        }
        for (int what = 0; what < 3; what++) told.add((long) x.odd(what));
        for (int word = 0; word < 4096; word += 257) told.add((long) x.means(word));
        told.add((long) x.read());
        for (int i = 0; i < 16; i++) {
            told.add((long) x.undo());
            told.add((long) x.cell(0));
            told.add((long) x.cell(23));
            told.add((long) x.count(4));
            told.add((long) x.make(0));
        }
        for (int letter = 0; letter < 8; letter++) told.add((long) x.hold(letter, 0));
        told.add((long) x.back());
        for (int i = 0; i < 8; i++) told.add((long) x.cell(i));
        for (int i = 0; i < 5; i++) told.add((long) x.order(i));
        for (int letter = 0; letter < 8; letter++) told.add((long) x.hold(letter, 0));
        return told;
    }

    static void dueAlike(String what, List<Long> got, List<Long> want) {
        due(what + ": how much is told", got.size(), want.size());
        for (int i = 0; i < Math.min(got.size(), want.size()); i++) {
            due(what + ": what is told " + i + "th", got.get(i), want.get(i));
        }
    }

    static void dueRefusals(String what, DecoderForge x, DecoderForge other, int more) {
        for (int which = 0; which < 3; which++) {
            int one = more == BAD - which ? 1 : 0;
            due(what + ": refused(" + which + ")", x.refused(which), other.refused(which) + one);
        }
    }

    /** Calls that are refused: each is counted once, and else the object is as one that wasn't asked. */
    static void refusedOn(Supplier<DecoderForge> made, int refusal, Call... calls) {
        for (int i = 0; i < calls.length; i++) {
            DecoderForge x = made.get();
            DecoderForge other = made.get();
            String what = "refused call " + i;
            due(what, calls[i].on(x), refusal);
            dueRefusals(what, x, other, refusal);
            dueAlike(what, tale(x), tale(other));
        }
    }

    static void refused(int refusal, Call... calls) {
        refusedOn(Bounds::world, refusal, calls);
    }

    /** A question: it answers so, nothing is refused, nothing changes. */
    static void asks(long want, Call... calls) {
        for (int i = 0; i < calls.length; i++) {
            DecoderForge x = world();
            DecoderForge other = world();
            String what = "question " + i;
            due(what, calls[i].on(x), want);
            dueRefusals(what, x, other, 0);
            dueAlike(what, tale(x), tale(other));
        }
    }

    /** No text: the fault is told, nothing is refused, the tape is empty, nothing else changes. */
    static void textFault(String before, String s, int place) {
        DecoderForge x = feed(with(before), s);
        DecoderForge other = feed(with(before), s);
        String what = "text '" + s + "'";
        due(what, x.text(), -10 - place);
        other.wipe();
        dueRefusals(what, x, other, 0);
        dueAlike(what, tale(x), tale(other));
    }

    static void textFault(String s, int place) {
        textFault("", s, place);
    }

    static void textStands(String s, int forms) {
        DecoderForge x = feed(new DecoderForge(), s);
        due("text '" + s + "'", x.text(), forms);
        due("forms of '" + s + "'", x.count(0), forms);
        due("tape behind '" + s + "'", x.count(1), 0);
    }

    /** No line: as with texts. */
    static void lineFault(String forms, String s, int place) {
        DecoderForge x = feed(with(forms), s);
        DecoderForge other = feed(with(forms), s);
        String what = "line '" + s + "'";
        due(what, x.read(), -10 - place);
        other.wipe();
        dueRefusals(what, x, other, 0);
        dueAlike(what, tale(x), tale(other));
    }

    static void lineStands(String forms, String s, int word) {
        DecoderForge x = with(forms);
        due("line '" + s + "'", read(x, s), word);
        due("tape behind '" + s + "'", x.count(1), 0);
    }
}
