import java.util.Random;
import java.util.regex.Matcher;
import java.util.regex.Pattern;

/** Texts spoilt by a fixed seed: their faults against those that regular expressions find. */
public final class FaultTest {
    private static final Random RANDOM = new Random(7);
    private static final String[] GOOD = {
        "line 0 0 0 1;line 0 1 1 2;line 0 2 2 3;line 1 0 1 4;back 2 1;dry 0 5;child 3;free 1;cut 2;",
        "say 0;say 2;dry;out 1;go;say 0;in 1;dry;wait;prompt;say 3;",
        "heard 0;gap;heard 0;gap;",
        "houses 4;wall 0 1;wall 1 3;book 1 1;loud 0 2;loud 3 5;"};
    /** A word of each sort with its numbers' limits. */
    private static final String[] FORMS = {
        "line 0-19 0-5 0-9 0-9,dry 0-5 0-10,back 0-19 0-19,child 0-5,free 0-9,cut 1-9",
        "say 0-19,out 0-5,in 0-5,dry,prompt,wait,go",
        "heard 0-5,gap",
        "houses 2-9,wall 0-7 1-9,book 0-8 0-1,loud 0-8 0-9"};
    private static final Pattern TOKEN = Pattern.compile("[ \n]*([a-z]+|[0-9]+|;|$|.)", Pattern.DOTALL);
    private static final String ODD = "abz 0159;\n;  lineback\t\u00e9A/:`{";

    public static void main(String[] args) {
        for (int round = 0; round < 40000; round++) {
            int sort = RANDOM.nextInt(4);
            check(sort, spoilt(GOOD[sort]));
        }
        for (int round = 0; round < 20000; round++) {
            int sort = RANDOM.nextInt(4);
            check(sort, statements(sort));
        }
        Kit.finish("FaultTest");
    }

    private static String spoilt(String good) {
        StringBuilder text = new StringBuilder(good);
        for (int i = RANDOM.nextInt(4); i > 0 && text.length() > 0; i--) {
            int at = RANDOM.nextInt(text.length());
            char sign = ODD.charAt(RANDOM.nextInt(ODD.length()));
            switch (RANDOM.nextInt(4)) {
                case 0:
                    text.setCharAt(at, sign);
                    break;
                case 1:
                    text.insert(at, sign);
                    break;
                case 2:
                    text.deleteCharAt(at);
                    break;
                default:
                    text.setLength(at + 1);
                    break;
            }
        }
        return text.toString();
    }

    /** Statements of which the numbers may be wrong, or too many. */
    private static String statements(int sort) {
        String[] forms = FORMS[sort].split(",");
        StringBuilder text = new StringBuilder();
        int many = RANDOM.nextInt(RANDOM.nextInt(4) == 0 ? 60 : 8);
        int only = RANDOM.nextInt(3) == 0 ? RANDOM.nextInt(forms.length) : -1;
        for (int i = 0; i < many; i++) {
            String[] form = forms[only >= 0 ? only : RANDOM.nextInt(forms.length)].split(" ");
            StringBuilder one = new StringBuilder(form[0]);
            for (int j = 1; j < form.length; j++) {
                int most = Integer.parseInt(form[j].split("-")[1]);
                int least = Integer.parseInt(form[j].split("-")[0]);
                boolean wild = RANDOM.nextInt(60) == 0;
                one.append(' ').append(wild ? RANDOM.nextInt(most + 3) : least + RANDOM.nextInt(most - least + 1) / (1 + RANDOM.nextInt(4)));
            }
            if (text.length() + one.length() + 1 <= 600) {
                text.append(one).append(';');
            }
        }
        return text.toString();
    }

    private static void check(int sort, String text) {
        CellarPrompter x = new CellarPrompter();
        int[] due = fault(sort, text);
        Kit.due("text " + sort + " " + text, Kit.tell(x, sort, -1, text), due[0] == 0 ? 0 : -1);
        Kit.due("fault " + sort + " " + text, x.fault(0), due[0]);
        Kit.due("place " + sort + " " + text, x.fault(1), due[1]);
    }

    /** {fault, place}. */
    private static int[] fault(int sort, String text) {
        int[] later = {0, -1};
        int[] many = new int[2];
        int[] missing = {-1, sort == 3 ? 4 : 0};
        Matcher m = TOKEN.matcher(text);
        String[] form = null;
        int place = 0;
        while (m.find()) {
            String token = m.group(1);
            int at = m.start(1);
            if (form == null) {
                if (token.isEmpty()) {
                    break;
                }
                form = formOf(sort, token);
                place = 0;
                if (form == null) {
                    return new int[] {1, at};
                }
                if (tooMany(sort, form[0], many) && later[0] == 0) {
                    later = new int[] {3, at};
                }
                missing[1] += form[0].equals("line") ? 1 : 0;
            } else if (place + 1 < form.length) {
                place++;
                if (!token.matches("[0-9]{1,2}")) {
                    return new int[] {1, at};
                }
                int number = Integer.parseInt(token);
                String[] limits = form[place].split("-");
                boolean bad = number < Integer.parseInt(limits[0]) || number > Integer.parseInt(limits[1]);
                later = bad && later[0] == 0 ? new int[] {2, at} : later;
                tellsOf(form[0], place, number, missing);
            } else if (token.equals(";")) {
                form = null;
            } else {
                return new int[] {1, at};
            }
        }
        boolean lacks = (sort == 0 || sort == 3) && missing[0] >= missing[1];
        return later[0] == 0 && lacks ? new int[] {4, text.length()} : later;
    }

    private static String[] formOf(int sort, String word) {
        for (String form : FORMS[sort].split(",")) {
            if (form.split(" ")[0].equals(word)) {
                return form.split(" ");
            }
        }
        return null;
    }

    private static boolean tooMany(int sort, String word, int[] many) {
        if (sort == 0) {
            many[0] += word.equals("line") ? 1 : 0;
            many[1] += word.equals("back") ? 1 : 0;
            return many[0] > 20 || many[1] > 8;
        }
        many[0]++;
        return sort == 1 && many[0] > 40 || sort == 2 && many[0] > 12;
    }

    private static void tellsOf(String word, int place, int number, int[] missing) {
        if (word.equals("houses")) {
            missing[1] = number;
        } else if (word.equals("back") || place == 1 && word.matches("line|wall|book|loud")) {
            missing[0] = Math.max(missing[0], word.equals("wall") ? number + 1 : number);
        }
    }
}
