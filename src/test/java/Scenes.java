/**
 * PROGRAMS and acts (each twice the ADDRESS, and 1 more, if TAKEN), found by a search among random ones: together
 * they come to every boundary of what is learnt (GuesserEdges has the list).
 */
final class Scenes {
    private Scenes() {
    }

    static final String[] TEXTS = {
        "guesser rows 1 tag 2 age 7 cost 20 deep 7 parts 3;span 4;span 10;span 13;span 17;put 0 2;"
            + "put 1 10;put 2 0;put 3 0;add 3 1;sum 4 3;below 3 0 4;add 2 1;odd 2 3;below 2 1 3;stop;",
        "guesser rows 1 tag 2 age 1 cost 17 deep 2 parts 7;span 3;span 4;put 0 3;put 1 23;put 2 0;"
            + "put 3 0;add 3 1;sum 4 3;below 3 0 4;add 2 1;odd 2 3;below 2 1 3;stop;",
        "guesser rows 2 tag 2 age 2 cost 15 deep 0 parts 5;span 1;span 5;span 6;span 7;span 11;"
            + "put 0 2;put 1 3;put 2 0;put 3 0;add 2 1;below 2 0 4;add 3 1;below 3 1 6;same 5 6 9;"
            + "add 4 7;odd 4 2;add 4 1;below 7 4 2;go 3;",
        "guesser rows 2 tag 3 age 5 cost 4 deep 6 parts 3;span 4;put 6 318;put 7 479;add 0 699;"
            + "odd 0 4;sum 1 0;below 1 6 6;less 2 1;below 2 7 2;same 0 6 11;odd 2 2;take 5 3;go 2;",
        "guesser rows 2 tag 2 age 3 cost 0 deep 5 parts 2;span 2;span 13;span 16;put 6 460;"
            + "put 7 867;add 0 249;odd 0 5;sum 1 0;below 1 6 6;less 2 1;below 2 7 2;same 0 6 10;odd 2 2;"
            + "take 5 3;go 2;",
        "guesser rows 1 tag 3 age 9 cost 6 deep 7 parts 3;span 2;span 14;span 17;put 0 5;put 1 2;"
            + "put 2 0;put 3 0;add 2 1;below 2 0 4;add 3 1;below 3 1 6;same 5 6 9;add 4 7;odd 4 2;"
            + "add 4 1;below 7 4 2;go 8;",
        "guesser rows 1 tag 3 age 4 cost 6 deep 6 parts 7;span 1;span 2;span 6;span 9;put 0 2;"
            + "put 1 27;put 2 0;put 3 0;add 3 1;sum 4 3;below 3 0 4;add 2 1;odd 2 3;below 2 1 3;stop;",
        "guesser rows 1 tag 3 age 8 cost 13 deep 4 parts 3;span 10;put 0 61;put 1 30;put 2 0;"
            + "put 3 0;add 3 1;below 3 0 4;add 2 1;below 2 1 3;stop;",
        "guesser rows 4 tag 3 age 6 cost 5 deep 5 parts 6;span 10;put 0 6;put 1 8;put 2 0;put 3 0;"
            + "add 3 1;sum 4 3;below 3 0 4;add 2 1;odd 2 3;below 2 1 3;stop;",
        "guesser rows 1 tag 2 age 4 cost 16 deep 1 parts 6;same 1 4 3;go 5;sum 5 7;take 1 3;"
            + "copy 5 0;sum 3 1;add 2 1;sum 0 6;sum 5 5;below 4 6 31;below 0 6 3;below 2 6 3;add 7 1;",
        "guesser rows 3 tag 2 age 9 cost 5 deep 0 parts 3;span 4;span 8;put 6 240;put 7 766;"
            + "add 0 760;odd 0 4;sum 1 0;below 1 6 6;less 2 1;below 2 7 2;same 0 6 11;odd 2 2;take 5 3;"
            + "go 2;",
        "guesser rows 2 tag 3 age 1 cost 4 deep 4 parts 6;span 4;span 5;put 6 456;put 7 231;"
            + "add 0 707;odd 0 4;sum 1 0;below 1 6 6;less 2 1;below 2 7 2;same 0 6 10;odd 2 2;take 5 3;"
            + "go 2;",
        "guesser rows 1 tag 3 age 7 cost 19 deep 6 parts 2;span 4;span 7;span 10;span 11;span 14;"
            + "copy 5 6;stop;below 5 7 5;same 3 5 18;same 1 3 6;put 7 489;same 0 2 7;less 1 4;copy 5 7;"
            + "put 3 2;same 5 4 4;odd 5 14;put 5 2;copy 1 3;same 3 3 8;put 2 0;take 2 0;same 4 6 20;"
            + "sum 2 0;less 4 2;odd 1 21;",
        "guesser rows 1 tag 2 age 7 cost 12 deep 6 parts 6;span 2;span 3;add 1 1;go 18;copy 2 4;"
            + "add 4 433;sum 0 1;stop;same 4 3 19;copy 6 5;add 5 3;sum 5 3;below 3 6 17;same 2 7 17;"
            + "less 3 1;same 3 3 5;go 2;go 8;go 18;same 1 0 15;add 3 2;",
        "guesser rows 4 tag 3 age 7 cost 15 deep 9 parts 7;span 3;put 0 62;put 1 20;put 2 0;"
            + "put 3 0;add 3 1;sum 4 3;below 3 0 4;add 2 1;odd 2 3;below 2 1 3;stop;",
        "guesser rows 2 tag 2 age 3 cost 17 deep 7 parts 2;span 4;span 6;span 9;put 0 6;put 1 11;"
            + "put 2 0;put 3 0;add 3 1;sum 4 3;below 3 0 4;add 2 1;below 2 1 3;stop;",
        "guesser rows 4 tag 3 age 7 cost 16 deep 6 parts 4;span 1;span 8;put 0 2;put 1 21;put 2 0;"
            + "put 3 0;add 3 1;sum 4 3;below 3 0 4;add 2 1;odd 2 3;below 2 1 3;stop;",
        "guesser rows 1 tag 3 age 8 cost 6 deep 5 parts 3;span 8;put 0 1;put 1 6;put 2 0;put 3 0;"
            + "add 2 1;below 2 0 4;add 3 1;below 3 1 6;same 5 6 9;add 4 7;odd 4 2;add 4 1;below 7 4 2;"
            + "go 7;",
        "guesser rows 3 tag 2 age 1 cost 10 deep 2 parts 6;span 1;span 4;span 5;put 6 641;"
            + "put 7 292;add 0 245;odd 0 4;sum 1 0;below 1 6 6;less 2 1;below 2 7 2;same 0 6 11;odd 2 2;"
            + "take 5 3;go 2;"
    };

    static final int[][] ACTS = {
        {
            2, 3, 2, 83, 2, 51, 18, 3, 3, 2, 2, 2, 2, 2, 2, 3, 2, 82, 2, 3, 3, 67, 3, 3, 3, 3, 98, 66, 66, 3, 18,
            2, 2, 3, 2, 3, 3, 3, 2, 2
        },
        {
            97, 77, 80, 59, 105, 62, 53, 80, 58, 81, 64, 109, 91, 15, 87, 33, 96, 79, 11, 35, 96, 37, 120, 52, 65,
            29, 117, 25, 124, 71, 93, 20, 33, 92, 49, 85, 116, 48, 48, 111
        },
        {
            74, 35, 117, 121, 5, 83, 41, 13, 120, 46, 75, 124, 97, 45, 36, 91, 24, 82, 64, 13, 112, 39, 80, 10,
            102, 30, 80, 33, 81, 125, 31, 95, 58, 42, 85, 5, 69, 76, 45, 14
        },
        {
            59, 5, 23, 17, 117, 74, 125, 11, 58, 10, 84, 91, 17, 27, 102, 118, 33, 36, 80, 77, 21, 19, 109, 87,
            108, 99, 14, 70, 41, 89, 51, 88, 75, 38, 66, 92, 26, 55, 118, 111
        },
        {
            7, 58, 94, 54, 41, 15, 82, 8, 30, 4, 4, 103, 18, 12, 46, 27, 6, 116, 120, 70, 45, 118, 57, 23, 127, 94,
            65, 39, 108, 56, 108, 119, 38, 57, 75, 59, 42, 103, 23, 118
        },
        {
            11, 11, 11, 122, 10, 74, 11, 10, 10, 43, 90, 10, 10, 11, 11, 91, 10, 10, 11, 74, 10, 11, 11, 11, 11,
            10, 11, 10, 11, 74, 11, 10, 11, 10, 10, 10, 10, 107, 10, 90
        },
        {
            89, 56, 41, 8, 125, 122, 54, 65, 41, 47, 26, 125, 28, 60, 125, 11, 112, 26, 113, 59, 127, 54, 117, 1,
            96, 56, 71, 55, 16, 30, 76, 110, 8, 101, 47, 55, 81, 109, 1, 127
        },
        {
            63, 62, 62, 63, 62, 31, 63, 62, 63, 110, 62, 63, 62, 110, 14, 63, 78, 62, 62, 62, 46, 62, 62, 62, 63,
            62, 62, 126, 63, 62, 31, 62, 94, 63, 63, 31, 63, 94, 63, 62
        },
        {
            121, 44, 8, 127, 17, 126, 23, 42, 1, 39, 123, 54, 41, 29, 82, 67, 34, 60, 29, 23, 61, 76, 74, 43, 26,
            37, 50, 77, 124, 67, 10, 102, 108, 6, 54, 63, 125, 96, 30, 28
        },
        {
            20, 21, 20, 20, 21, 20, 20, 21, 20, 20, 21, 20, 20, 21, 20, 20, 21, 20, 20, 21, 20, 20, 21, 20, 20, 21,
            20, 20, 21, 20, 20, 21, 20, 20, 21, 20, 20, 21, 20, 20
        },
        {
            37, 100, 1, 45, 35, 34, 55, 64, 43, 75, 76, 106, 17, 65, 113, 41, 67, 11, 69, 13, 94, 121, 59, 114, 51,
            96, 70, 103, 51, 125, 114, 103, 42, 94, 18, 92, 62, 5, 81, 10
        },
        {
            72, 29, 33, 63, 85, 89, 19, 29, 83, 84, 24, 7, 49, 62, 3, 106, 103, 12, 118, 69, 102, 38, 92, 36, 42,
            77, 64, 101, 34, 3, 55, 4, 107, 18, 17, 55, 65, 82, 51, 22
        },
        {
            77, 3, 95, 50, 103, 5, 4, 119, 52, 102, 76, 81, 103, 73, 115, 36, 93, 33, 25, 80, 0, 33, 81, 114, 78,
            8, 22, 77, 66, 28, 70, 91, 103, 15, 111, 127, 30, 14, 91, 76
        },
        {
            97, 103, 55, 94, 121, 9, 17, 86, 120, 15, 115, 125, 37, 43, 3, 84, 66, 123, 26, 120, 54, 35, 114, 68,
            18, 90, 106, 89, 8, 14, 119, 96, 127, 127, 34, 68, 28, 27, 21, 45
        },
        {
            86, 17, 6, 92, 103, 21, 79, 2, 17, 32, 92, 30, 93, 21, 79, 2, 17, 86, 92, 30, 39, 96, 7, 45, 64, 17,
            65, 26, 17, 64, 92, 7, 109, 79, 2, 17, 64, 92, 7, 96
        },
        {
            32, 68, 60, 88, 107, 8, 94, 2, 92, 86, 39, 15, 106, 112, 117, 35, 6, 25, 78, 82, 106, 93, 27, 115, 39,
            16, 66, 81, 30, 124, 36, 32, 63, 39, 69, 78, 31, 84, 30, 114
        },
        {
            27, 27, 27, 27, 27, 27, 27, 27, 27, 26, 42, 107, 26, 107, 27, 27, 10, 42, 26, 91, 75, 27, 26, 27, 27,
            107, 27, 27, 26, 26, 27, 26, 27, 122, 26, 27, 10, 26, 27, 59
        },
        {
            21, 62, 9, 57, 51, 46, 29, 69, 3, 33, 64, 39, 49, 1, 16, 124, 26, 75, 23, 75, 122, 32, 32, 123, 97,
            127, 112, 38, 75, 4, 114, 120, 56, 26, 38, 46, 2, 54, 119, 91
        },
        {
            51, 50, 51, 50, 51, 50, 51, 50, 51, 50, 51, 50, 51, 50, 51, 50, 51, 50, 51, 50, 51, 50, 51, 50, 51, 50,
            51, 50, 51, 50, 51, 50, 51, 50, 51, 50, 51, 50, 51, 50
        }
    };
}
