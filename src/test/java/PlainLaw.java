import java.util.ArrayDeque;
import java.util.Deque;

/** THE LAW another way: the FAULT by a machine that goes byte by byte, values by parting the text at its weakest sign. */
final class PlainLaw {
    private static final String[] LEVELS = {"|", "&", "<=>", "+-", "*/%"};

    private PlainLaw() {
    }

    /** -1: there is no FAULT. */
    static int faultOf(String text) {
        Deque<Character> open = new ArrayDeque<>();
        Deque<Boolean> compared = new ArrayDeque<>();
        compared.push(false);
        boolean wantsOperand = true;
        boolean second = false;
        int digits = 0;
        for (int i = 0; i < text.length(); i++) {
            char c = text.charAt(i);
            if (wantsOperand) {
                if ("(!-".indexOf(c) >= 0) {
                    if (open.size() == 6) {
                        return i;
                    }
                    open.push(c);
                    if (c == '(') {
                        compared.push(false);
                    }
                    continue;
                }
                if (c >= '0' && c <= '9') {
                    digits = 1;
                } else if ("olcrtp".indexOf(c) >= 0) {
                    digits = 0;
                } else {
                    return i;
                }
                wantsOperand = false;
                endOperand(open);
                continue;
            }
            if (c >= '0' && c <= '9' && digits >= 1 && digits < 4) {
                digits++;
                continue;
            }
            digits = 0;
            if (c == ')') {
                if (open.isEmpty()) {
                    return i;
                }
                open.pop();
                compared.pop();
                endOperand(open);
                continue;
            }
            if ("<=>".indexOf(c) >= 0) {
                if (compared.peek()) {
                    return i;
                }
                compared.pop();
                compared.push(true);
            } else if ("|&".indexOf(c) >= 0) {
                compared.pop();
                compared.push(false);
            } else if (c == '?' && open.isEmpty() && !second) {
                second = true;
                compared.pop();
                compared.push(false);
            } else if (c == ';' && open.isEmpty()) {
                second = false;
                compared.pop();
                compared.push(false);
            } else if ("+-*/%".indexOf(c) < 0) {
                return i;
            }
            wantsOperand = true;
        }
        return wantsOperand || !open.isEmpty() ? text.length() : -1;
    }

    private static void endOperand(Deque<Character> open) {
        while (!open.isEmpty() && open.peek() != '(') {
            open.pop();
        }
    }

    /** Names: o l c r t p, in this order. */
    static int valueOf(String text, int... names) {
        for (String line : text.split(";")) {
            int at = line.indexOf('?');
            if (at < 0) {
                return expression(line, names);
            }
            if (expression(line.substring(0, at), names) != 0) {
                return expression(line.substring(at + 1), names);
            }
        }
        return 0;
    }

    private static int expression(String e, int[] names) {
        for (String signs : LEVELS) {
            int depth = 0;
            for (int i = e.length() - 1; i > 0; i--) {
                char c = e.charAt(i);
                if (c == ')') {
                    depth++;
                } else if (c == '(') {
                    depth--;
                } else if (depth == 0 && signs.indexOf(c) >= 0 && endsOperand(e.charAt(i - 1))) {
                    return join(c, expression(e.substring(0, i), names), expression(e.substring(i + 1), names));
                }
            }
        }
        char first = e.charAt(0);
        if (first == '!') {
            return expression(e.substring(1), names) == 0 ? 1 : 0;
        }
        if (first == '-') {
            return -expression(e.substring(1), names);
        }
        if (first == '(') {
            return expression(e.substring(1, e.length() - 1), names);
        }
        int name = "olcrtp".indexOf(first);
        return name >= 0 ? names[name] : Integer.parseInt(e);
    }

    private static boolean endsOperand(char c) {
        return c == ')' || c >= '0' && c <= '9' || "olcrtp".indexOf(c) >= 0;
    }

    private static int join(char sign, int a, int b) {
        switch (sign) {
            case '|': return (a != 0) | (b != 0) ? 1 : 0;
            case '&': return (a != 0) & (b != 0) ? 1 : 0;
            case '<': return a < b ? 1 : 0;
            case '=': return a == b ? 1 : 0;
            case '>': return a > b ? 1 : 0;
            case '+': return a + b;
            case '-': return a - b;
            case '*': return a * b;
            case '/': return b == 0 ? 0 : a / b;
            default: return b == 0 ? 0 : a % b;
        }
    }
}
