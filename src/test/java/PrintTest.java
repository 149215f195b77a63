/** Promise 11, where nothing is at fault: what every conversion prints. */
public final class PrintTest {
    public static void main(String[] args) {
        plainText();
        choiceOfArguments();
        truths();
        plainPrints();
        characters();
        wholes();
        otherBases();
        fixed();
        exponents();
        general();
        signsAndGroups();
        zeros();
        nothings();
        widths();
        largeNumbers();
        Check.end();
    }

    private static DirectivePrinter decimals(long... unscaledAndScales) {
        DirectivePrinter x = new DirectivePrinter();
        for (int i = 0; i + 1 < unscaledAndScales.length; i += 2) {
            x.decimal(unscaledAndScales[i], (int) unscaledAndScales[i + 1]);
        }
        return x;
    }

    private static void plainText() {
        DirectivePrinter x = new DirectivePrinter();
        Check.prints(x, "just $1 text.0-\u0000\u00ff", "just $1 text.0-\u0000\u00ff");
        Check.prints(x, "%%", "%");
        Check.prints(x, "a%nb", "a\nb");
        Check.prints(x, "%3%|%-3%|%7$%|%<%|%<-2%|", "  %|%  |%|%|% |");
        Check.prints(x, "%9$n", "\n");
        Check.prints(x, "%%d", "%d");
    }

    private static void choiceOfArguments() {
        DirectivePrinter x = Printers.wholes(32, 1, 2, 3, 4, 5, 6, 7, 8, 9);
        Check.prints(x, "%d%d%d%d%d%d%d%d%d", "123456789");
        Check.prints(x, "%9$d%d%3$d%d%<d%<d%d", "9132223");
        Check.prints(x, "%4$d%<d%%%n%<d%d%<d", "44%\n411");
        Check.prints(x, "%d%7$<d", "11");
        Check.prints(x, "%5$d%7$<d%<d", "555");
        Check.prints(x, "%9$<%%d", "%1");
        Check.prints(x, "%2$3d%<-3d|%<03d", "  22  |002");
    }

    private static void truths() {
        DirectivePrinter x = new DirectivePrinter();
        x.nothing();
        x.truth(false);
        x.truth(true);
        x.symbol(0);
        x.whole(8, 0L);
        x.text();
        x.decimal(0L, 0);
        Check.prints(x, "%b %b %b %b %b %b %b", "false false true true true true true");
        Check.prints(x, "%B %3$B %.0b|%<.1B|%3$.3b|%<.4b|%<.5b", "FALSE TRUE |F|tru|true|true");
        Check.prints(x, "%6b|%3$-6b|%2$6.2b|%<-6.2B|", " false|true  |    fa|FA    |");
    }

    private static void plainPrints() {
        DirectivePrinter x = new DirectivePrinter();
        x.nothing();
        x.truth(true);
        x.symbol(0xE9);
        x.whole(8, -128L);
        Check.text(x, "Grou\u00dfe az{`");
        x.decimal(-5L, 1);
        x.decimal(0L, 3);
        x.decimal(123456L, 2);
        x.decimal(-42L, 0);
        Check.prints(x, "%s %s %s %s %s", "null true \u00e9 -128 Grou\u00dfe az{`");
        Check.prints(x, "%6$s %s %<s", "-0.5 null null");
        Check.prints(x, "%6$s %7$s %8$s %9$s", "-0.5 0.000 1234.56 -42");
        Check.prints(x, "%S %S %S %S %S", "NULL TRUE \u00e9 -128 GROU\u00dfE AZ{`");
        Check.prints(x, "%.2s|%.0s|%.1s|%.2s|%.4s|%.3s", "nu||\u00e9|-1|Grou|-0.");
        Check.prints(x, "%8$.20s|%5$.11s|%5$.9999s", "1234.56|Grou\u00dfe az{`|Grou\u00dfe az{`");
        Check.prints(x, "%6.3s|%-6.3s|%3$4S|%5$2s", "   nul|tru   |   \u00e9|Grou\u00dfe az{`");
    }

    private static void characters() {
        DirectivePrinter x = new DirectivePrinter();
        x.nothing();
        x.symbol('a');
        x.whole(8, 'z');
        x.whole(16, 255L);
        x.whole(32, 0L);
        Check.prints(x, "%c %c %c %c %c", "null a z \u00ff \u0000");
        Check.prints(x, "%C %C %C %C %C", "NULL A Z \u00ff \u0000");
        Check.prints(x, "%2$3c|%2$-3c|%1$6c|%3$-2C|", "  a|a  |  null|Z |");
    }

    private static void wholes() {
        DirectivePrinter x = Printers.wholes(64, 0L, 7L, -7L, 1000L, -999L, 1234567L, Long.MIN_VALUE, Long.MAX_VALUE, 999999L);
        Check.prints(x, "%d %d %d %d %d", "0 7 -7 1000 -999");
        Check.prints(x, "%,d %4$,d %5$,d %6$,d %9$,d", "0 1,000 -999 1,234,567 999,999");
        Check.prints(x, "%7$,d %8$d", "-9,223,372,036,854,775,808 9223372036854775807");
        Check.prints(x, "%+d %+d %+d %4$ d %5$ d %2$ d", "+0 +7 -7  1000 -999  7");
        Check.prints(x, "%(d %(d %(d %5$(,+d %6$(,+d", "0 7 (7) (999) +1,234,567");
        Check.prints(x, "%5d|%-5d|%05d|%+6d|%4$,7d|", "    0|7    |-0007| +1000|  1,000|");
        Check.prints(x, "%2$1d%6$3d", "71234567");
    }

    private static void otherBases() {
        DirectivePrinter x = new DirectivePrinter();
        x.whole(8, -1L);
        x.whole(16, -1L);
        x.whole(32, -1L);
        x.whole(64, -1L);
        x.whole(32, 0L);
        x.whole(64, 0x0123456789ABCDEFL);
        x.whole(64, Long.MIN_VALUE);
        x.whole(8, -128L);
        Check.prints(x, "%x %x %x %x %x %x", "ff ffff ffffffff ffffffffffffffff 0 123456789abcdef");
        Check.prints(x, "%o %o %o %o %o %o", "377 177777 37777777777 1777777777777777777777 0 4432126361152746757");
        Check.prints(x, "%X %#x %1$#X %5$#x %5$#X %5$#o %1$#o", "FF 0xffff 0XFF 0x0 0X0 00 0377");
        Check.prints(x, "%7$x %7$o %8$x %8$o", "8000000000000000 1000000000000000000000 80 200");
        Check.prints(x, "%6x|%1$-6x|%1$06x|%1$#06x|%1$#6x|%1$#-6X|%1$#06o|%1$#3x|",
                "    ff|ff    |0000ff|0x00ff|  0xff|0XFF  |000377|0xff|");
    }

    private static void fixed() {
        DirectivePrinter x = decimals(0, 0, 5, 1, -5, 1, 1499, 3, 999999, 5, 1, 40, Long.MIN_VALUE, 2, -4, 2, 25, 1);
        Check.prints(x, "%f %f %f", "0.000000 0.500000 -0.500000");
        Check.prints(x, "%.0f %.0f %.0f %.0f", "0 1 -1 1");
        Check.prints(x, "%4$.2f %4$.1f %4$.3f %4$.5f", "1.50 1.5 1.499 1.49900");
        Check.prints(x, "%5$f %5$.4f %5$.0f", "9.999990 10.0000 10");
        Check.prints(x, "%6$f %6$.40f", "0.000000 0." + "0".repeat(39) + "1");
        Check.prints(x, "%6$.39f %6$.42f", "0." + "0".repeat(39) + " 0." + "0".repeat(39) + "100");
        Check.prints(x, "%7$f %7$,.1f", "-92233720368547758.080000 -92,233,720,368,547,758.1");
        Check.prints(x, "%8$.1f %8$.0f %8$(.1f %8$+.1f %8$.2f", "-0.0 -0 (0.0) -0.0 -0.04");
        Check.prints(x, "%9$.0f %#.0f %9$#.0f %9$#.1f", "3 0. 3. 2.5");
        DirectivePrinter y = decimals(49, 2, 50, 2, 51, 2, 5, 2, 4, 1, 95, 2, 999, 0, 9999, 1);
        Check.prints(y, "%.0f %.0f %.0f %.0f %.0f", "0 1 1 0 0");
        Check.prints(y, "%4$.1f %6$.1f %6$.0f %7$.0f %8$.0f %8$,.0f", "0.1 1.0 1 999 1000 1,000");
    }

    private static void exponents() {
        DirectivePrinter x = decimals(0, 7, 123456789, 0, -123456789, 20, 1, 40, 9999999, 0, 95, 1, Long.MIN_VALUE, 0,
                15, 0, 94, 1);
        Check.prints(x, "%e %e %e", "0.000000e+00 1.234568e+08 -1.234568e-12");
        Check.prints(x, "%4$e %5$e %5$.6e %5$.5e", "1.000000e-40 9.999999e+06 9.999999e+06 1.00000e+07");
        Check.prints(x, "%6$.0e %6$.1e %9$.0e %8$.0e %8$#.0e", "1e+01 9.5e+00 9e+00 2e+01 2.e+01");
        Check.prints(x, "%7$e %7$.18E %7$.20e", "-9.223372e+18 -9.223372036854775808E+18 -9.22337203685477580800e+18");
        Check.prints(x, "%.0e %<#.0E %<.3e %<+.1e %< .1e", "0e+00 0.E+00 0.000e+00 +0.0e+00  0.0e+00");
        Check.prints(x, "%3$(.2e|%2$+.2e|%3$015.2e|%3$(015.2E|%2$-12.1e|%2$12.1e|",
                "(1.23e-12)|+1.23e+08|-0000001.23e-12|(000001.23E-12)|1.2e+08     |     1.2e+08|");
    }

    private static void general() {
        DirectivePrinter x = decimals(0, 5, 1, 4, 99999, 9, 999995, 0, 9999995, 1, 123456, 0, 1234567, 0, -5, 1,
                Long.MAX_VALUE, 9);
        Check.prints(x, "%g %.0g %<.1g %<.3g %1$g", "0.00000 0.0001 0.0001 0.000100 0.00000");
        Check.prints(x, "%1$.0g %1$.1g %1$.2g %1$.3G", "0 0 0.0 0.00");
        Check.prints(x, "%2$g %3$g %3$.5g %3$.4g %3$.0g", "0.000100000 9.99990e-05 9.9999e-05 0.0001000 0.0001");
        Check.prints(x, "%4$g %4$.5g %5$g %5$.7g", "999995 1.0000e+06 1.00000e+06 999999.5");
        Check.prints(x, "%6$g %7$g %7$.7g %6$,g %7$,.8g", "123456 1.23457e+06 1234567 123,456 1,234,567.0");
        Check.prints(x, "%8$g %8$(g %8$.1G %8$010.2g %8$+g", "-0.500000 (0.500000) -0.5 -000000.50 -0.500000");
        Check.prints(x, "%9$g %9$.9g %9$.10g %9$,.10G", "9.22337e+09 9.22337204e+09 9223372037 9,223,372,037");
        Check.prints(x, "%9$.19g %9$.21g %9$.5G", "9223372036.854775807 9223372036.85477580700 9.2234E+09");
        Check.prints(x, "%2$+g|%2$ g|%2$-14g|%2$014g", "+0.000100000| 0.000100000|0.000100000   |0000.000100000");
        DirectivePrinter y = decimals(95, 1, 94, 1, 999999, 10, 9999999, 11, 100000, 0, 1000000, 0, 5, 5);
        Check.prints(y, "%.1g %.1g %.0g %.0g", "1e+01 9 0.0001 0.0001");
        Check.prints(y, "%3$g %4$g %5$g %6$g %7$g", "9.99999e-05 0.000100000 100000 1.00000e+06 5.00000e-05");
    }

    private static void signsAndGroups() {
        DirectivePrinter x = decimals(1234567, 2, -1234567, 2, 0, 0, -1, 6, 100, 0, -100000000, 3);
        Check.prints(x, "%,.2f %,.2f %,.2f", "12,345.67 -12,345.67 0.00");
        Check.prints(x, "%+,.1f|%+,.1f|%+.0f|%+.0f", "+12,345.7|-12,345.7|+0|-0");
        Check.prints(x, "% ,.1f|% ,.1f|% .0f|% (.0f", " 12,345.7|-12,345.7| 0|(0)");
        Check.prints(x, "%(,.1f|%(,.1f|%(+.0f|%( .0f", "12,345.7|(12,345.7)|+0|(0)");
        Check.prints(x, "%5$,f|%6$,f|%6$,.0f", "100.000000|-100,000.000000|-100,000");
        Check.prints(x, "%2$(,14.2f|%2$(,-14.2f|%2$(,014.2f|", "   (12,345.67)|(12,345.67)   |(00012,345.67)|");
    }

    private static void zeros() {
        DirectivePrinter x = new DirectivePrinter();
        x.whole(16, -12L);
        x.whole(16, 12L);
        x.decimal(-125L, 2);
        x.nothing();
        Check.prints(x, "%06d|%(06d|%2$06d|%2$+06d|%2$ 06d|%2$(06d", "-00012|000012|000012|+00012| 00012|000012");
        Check.prints(x, "%1$(06d|%1$06d|%1$02d|%1$03d|%1$04d", "(0012)|-00012|-12|-12|-012");
        Check.prints(x, "%3$08.1f|%3$(08.1f|%3$012.1e|%3$08.2g|%3$01.0f", "-00001.3|(0001.3)|-00001.3e+00|-00001.3|-1");
        Check.prints(x, "%4$06d|%4$06x|%4$06f|%4$06e|%4$06g|%4$06o", "  null|  null|  null|  null|  null|  null");
    }

    private static void nothings() {
        DirectivePrinter x = new DirectivePrinter();
        x.nothing();
        String all = "%1$b%1$B%1$s%1$S%1$c%1$C%1$d%1$o%1$x%1$X%1$f%1$e%1$E%1$g%1$G";
        Check.prints(x, all, "falseFALSEnullNULLnullNULLnullnullnullNULLnullnullNULLnullNULL");
        Check.prints(x, "%+d|%1$ d|%1$(,d|%1$#x|%1$#o|%1$#f|%1$+.1e", "null|null|null|null|null|null|null");
        Check.prints(x, "%.2f|%1$.0e|%1$.1g|%1$#.0E", "null|null|null|NULL");
        Check.prints(x, "%6d|%1$-6x|%1$-6.1f|%1$6G", "  null|null  |null  |  NULL");
    }

    private static void widths() {
        DirectivePrinter x = new DirectivePrinter();
        x.whole(32, 42L);
        x.decimal(1L, 0);
        Check.prints(x, "%256d", " ".repeat(254) + "42");
        Check.prints(x, "%-4096d", "42" + " ".repeat(4094));
        Check.prints(x, "%04096d", "0".repeat(4094) + "42");
        Check.prints(x, "%4095d!", " ".repeat(4093) + "42!");
        Check.prints(x, "%2$.4094f", "1." + "0".repeat(4094));
        Check.prints(x, "%2$.4095g", "1." + "0".repeat(4094));
        Check.prints(x, "%2$.4090e", "1." + "0".repeat(4090) + "e+00");
        Check.prints(x, "%4096d%2$.0s", " ".repeat(4094) + "42");
        Check.prints(x, "%4095s%1$.1s", " ".repeat(4093) + "424");
    }

    private static void largeNumbers() {
        DirectivePrinter x = new DirectivePrinter();
        Check.text(x, "abc");
        Check.prints(x, "%.99999999999999999999s|%1$.000s|%1$.0002s|%1$.4294967297s", "abc||ab|abc");
    }
}
