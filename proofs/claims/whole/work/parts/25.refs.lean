/-! kinds, lengths, references by label -/
theorem kk1 : kkind 1 = 9 := by decide +kernel
theorem kk2 : kkind 2 = 23 := by decide +kernel
theorem kk3 : kkind 3 = 6 := by decide +kernel
theorem kk4 : kkind 4 = 1 := by decide +kernel
theorem kk5 : kkind 5 = 20 := by decide +kernel
theorem kk6 : kkind 6 = 20 := by decide +kernel
theorem kk7 : kkind 7 = 20 := by decide +kernel
theorem kk8 : kkind 8 = 7 := by decide +kernel
theorem kk9 : kkind 9 = 20 := by decide +kernel
theorem kk10 : kkind 10 = 4 := by decide +kernel
theorem kk11 : kkind 11 = 3 := by decide +kernel
theorem kk12 : kkind 12 = 2 := by decide +kernel
theorem kk13 : kkind 13 = 24 := by decide +kernel
theorem kk14 : kkind 14 = 20 := by decide +kernel
theorem kk15 : kkind 15 = 20 := by decide +kernel
theorem kk16 : kkind 16 = 20 := by decide +kernel
theorem kk17 : kkind 17 = 20 := by decide +kernel
theorem kk18 : kkind 18 = 20 := by decide +kernel
theorem kk19 : kkind 19 = 20 := by decide +kernel
theorem kk20 : kkind 20 = 24 := by decide +kernel
theorem kk21 : kkind 21 = 20 := by decide +kernel
theorem kk22 : kkind 22 = 20 := by decide +kernel
theorem kk23 : kkind 23 = 20 := by decide +kernel
theorem kk24 : kkind 24 = 20 := by decide +kernel
theorem kk25 : kkind 25 = 20 := by decide +kernel
theorem kk26 : kkind 26 = 20 := by decide +kernel
theorem kk27 : kkind 27 = 24 := by decide +kernel
theorem kk28 : kkind 28 = 20 := by decide +kernel
theorem kk29 : kkind 29 = 20 := by decide +kernel
theorem kk30 : kkind 30 = 20 := by decide +kernel
theorem kk31 : kkind 31 = 20 := by decide +kernel
theorem kk32 : kkind 32 = 20 := by decide +kernel
theorem kk33 : kkind 33 = 1 := by decide +kernel
theorem kk34 : kkind 34 = 20 := by decide +kernel
theorem kk35 : kkind 35 = 20 := by decide +kernel
theorem kk36 : kkind 36 = 20 := by decide +kernel
theorem kk37 : kkind 37 = 20 := by decide +kernel
theorem kk38 : kkind 38 = 2 := by decide +kernel
theorem kk39 : kkind 39 = 24 := by decide +kernel
theorem kk40 : kkind 40 = 20 := by decide +kernel
theorem kk41 : kkind 41 = 20 := by decide +kernel
theorem kk42 : kkind 42 = 20 := by decide +kernel
theorem kk43 : kkind 43 = 20 := by decide +kernel
theorem kk44 : kkind 44 = 20 := by decide +kernel
theorem kk45 : kkind 45 = 20 := by decide +kernel
theorem kk46 : kkind 46 = 24 := by decide +kernel
theorem kk47 : kkind 47 = 20 := by decide +kernel
theorem kk48 : kkind 48 = 20 := by decide +kernel
theorem kk49 : kkind 49 = 20 := by decide +kernel
theorem kk50 : kkind 50 = 20 := by decide +kernel
theorem kk51 : kkind 51 = 20 := by decide +kernel
theorem kk52 : kkind 52 = 20 := by decide +kernel
theorem kk53 : kkind 53 = 24 := by decide +kernel
theorem kk54 : kkind 54 = 20 := by decide +kernel
theorem kk55 : kkind 55 = 20 := by decide +kernel
theorem kk56 : kkind 56 = 20 := by decide +kernel
theorem kk57 : kkind 57 = 20 := by decide +kernel
theorem kk58 : kkind 58 = 20 := by decide +kernel
theorem kk59 : kkind 59 = 1 := by decide +kernel
theorem kk60 : kkind 60 = 20 := by decide +kernel
theorem kk61 : kkind 61 = 20 := by decide +kernel
theorem kk62 : kkind 62 = 20 := by decide +kernel
theorem kk63 : kkind 63 = 20 := by decide +kernel
theorem kk64 : kkind 64 = 8 := by decide +kernel
theorem kk65 : kkind 65 = 20 := by decide +kernel
theorem kk66 : kkind 66 = 20 := by decide +kernel
theorem kk67 : kkind 67 = 20 := by decide +kernel
theorem kk68 : kkind 68 = 8 := by decide +kernel
theorem kk69 : kkind 69 = 20 := by decide +kernel
theorem kk70 : kkind 70 = 20 := by decide +kernel
theorem kk71 : kkind 71 = 20 := by decide +kernel
theorem kk72 : kkind 72 = 5 := by decide +kernel
theorem kk73 : kkind 73 = 25 := by decide +kernel
theorem kk74 : kkind 74 = 20 := by decide +kernel
theorem kk75 : kkind 75 = 8 := by decide +kernel
theorem kk76 : kkind 76 = 20 := by decide +kernel
theorem kk77 : kkind 77 = 20 := by decide +kernel
theorem kk78 : kkind 78 = 20 := by decide +kernel
theorem kk79 : kkind 79 = 8 := by decide +kernel
theorem kk80 : kkind 80 = 20 := by decide +kernel
theorem kk81 : kkind 81 = 20 := by decide +kernel
theorem kk82 : kkind 82 = 20 := by decide +kernel
theorem kk83 : kkind 83 = 8 := by decide +kernel
theorem kk84 : kkind 84 = 20 := by decide +kernel
theorem kk85 : kkind 85 = 20 := by decide +kernel
theorem kk86 : kkind 86 = 20 := by decide +kernel
theorem kk87 : kkind 87 = 8 := by decide +kernel
theorem kk88 : kkind 88 = 20 := by decide +kernel
theorem kk89 : kkind 89 = 20 := by decide +kernel
theorem kk90 : kkind 90 = 20 := by decide +kernel
theorem kk91 : kkind 91 = 8 := by decide +kernel
theorem kk92 : kkind 92 = 20 := by decide +kernel
theorem kk93 : kkind 93 = 20 := by decide +kernel
theorem kk94 : kkind 94 = 20 := by decide +kernel
theorem kk95 : kkind 95 = 8 := by decide +kernel
theorem kk96 : kkind 96 = 20 := by decide +kernel
theorem kk97 : kkind 97 = 20 := by decide +kernel
theorem kk98 : kkind 98 = 20 := by decide +kernel
theorem kk99 : kkind 99 = 8 := by decide +kernel
theorem kk100 : kkind 100 = 20 := by decide +kernel
theorem kk101 : kkind 101 = 20 := by decide +kernel
theorem kk102 : kkind 102 = 20 := by decide +kernel
theorem kk103 : kkind 103 = 8 := by decide +kernel
theorem kk104 : kkind 104 = 20 := by decide +kernel
theorem kk105 : kkind 105 = 20 := by decide +kernel
theorem kk106 : kkind 106 = 20 := by decide +kernel
theorem kk107 : kkind 107 = 8 := by decide +kernel
theorem kk108 : kkind 108 = 20 := by decide +kernel
theorem kk109 : kkind 109 = 20 := by decide +kernel
theorem kk110 : kkind 110 = 20 := by decide +kernel
theorem kk111 : kkind 111 = 8 := by decide +kernel
theorem kk112 : kkind 112 = 20 := by decide +kernel
theorem kk113 : kkind 113 = 20 := by decide +kernel
theorem kk114 : kkind 114 = 20 := by decide +kernel
theorem kk115 : kkind 115 = 8 := by decide +kernel
theorem kk116 : kkind 116 = 20 := by decide +kernel
theorem kk117 : kkind 117 = 20 := by decide +kernel
theorem kk118 : kkind 118 = 20 := by decide +kernel
theorem kk119 : kkind 119 = 8 := by decide +kernel
theorem kk120 : kkind 120 = 20 := by decide +kernel
theorem kk121 : kkind 121 = 20 := by decide +kernel
theorem kk122 : kkind 122 = 20 := by decide +kernel
theorem kk123 : kkind 123 = 8 := by decide +kernel
theorem kk124 : kkind 124 = 20 := by decide +kernel
theorem kk125 : kkind 125 = 20 := by decide +kernel
theorem kk126 : kkind 126 = 20 := by decide +kernel
theorem kk127 : kkind 127 = 8 := by decide +kernel
theorem kk128 : kkind 128 = 20 := by decide +kernel
theorem kk129 : kkind 129 = 20 := by decide +kernel
theorem kk130 : kkind 130 = 20 := by decide +kernel
theorem kk131 : kkind 131 = 8 := by decide +kernel
theorem kk132 : kkind 132 = 20 := by decide +kernel
theorem kk133 : kkind 133 = 20 := by decide +kernel
theorem kk134 : kkind 134 = 20 := by decide +kernel
theorem kk135 : kkind 135 = 8 := by decide +kernel
theorem kk136 : kkind 136 = 20 := by decide +kernel
theorem kk137 : kkind 137 = 20 := by decide +kernel
theorem kk138 : kkind 138 = 20 := by decide +kernel
theorem kk139 : kkind 139 = 8 := by decide +kernel
theorem kk140 : kkind 140 = 20 := by decide +kernel
theorem kk141 : kkind 141 = 20 := by decide +kernel
theorem kk142 : kkind 142 = 20 := by decide +kernel
theorem kk143 : kkind 143 = 8 := by decide +kernel
theorem kk144 : kkind 144 = 20 := by decide +kernel
theorem kk145 : kkind 145 = 20 := by decide +kernel
theorem kk146 : kkind 146 = 20 := by decide +kernel
theorem kk147 : kkind 147 = 8 := by decide +kernel
theorem kk148 : kkind 148 = 20 := by decide +kernel
theorem kk149 : kkind 149 = 20 := by decide +kernel
theorem kk150 : kkind 150 = 20 := by decide +kernel
theorem kk151 : kkind 151 = 8 := by decide +kernel
theorem kk152 : kkind 152 = 20 := by decide +kernel
theorem kk153 : kkind 153 = 20 := by decide +kernel
theorem kk154 : kkind 154 = 20 := by decide +kernel
theorem kk155 : kkind 155 = 0 := by decide +kernel
theorem kk156 : kkind 156 = 20 := by decide +kernel
theorem kk157 : kkind 157 = 20 := by decide +kernel
theorem kk158 : kkind 158 = 8 := by decide +kernel
theorem kk159 : kkind 159 = 20 := by decide +kernel
theorem kk160 : kkind 160 = 20 := by decide +kernel
theorem kk161 : kkind 161 = 20 := by decide +kernel
theorem kk162 : kkind 162 = 10 := by decide +kernel
theorem kk163 : kkind 163 = 21 := by decide +kernel
theorem kk164 : kkind 164 = 20 := by decide +kernel
theorem kk165 : kkind 165 = 20 := by decide +kernel
theorem kk166 : kkind 166 = 21 := by decide +kernel
theorem kk167 : kkind 167 = 20 := by decide +kernel
theorem kk168 : kkind 168 = 21 := by decide +kernel
theorem kk169 : kkind 169 = 21 := by decide +kernel
theorem kk170 : kkind 170 = 20 := by decide +kernel
theorem kk171 : kkind 171 = 20 := by decide +kernel
theorem kk172 : kkind 172 = 20 := by decide +kernel
theorem kk174 : kkind 174 = 20 := by decide +kernel
theorem kk175 : kkind 175 = 20 := by decide +kernel
theorem kk176 : kkind 176 = 22 := by decide +kernel
theorem kk177 : kkind 177 = 22 := by decide +kernel
theorem kk178 : kkind 178 = 22 := by decide +kernel
theorem kk179 : kkind 179 = 22 := by decide +kernel
theorem kk180 : kkind 180 = 22 := by decide +kernel
theorem kk181 : kkind 181 = 22 := by decide +kernel
theorem kk182 : kkind 182 = 22 := by decide +kernel
theorem kk183 : kkind 183 = 22 := by decide +kernel
theorem kk184 : kkind 184 = 22 := by decide +kernel
theorem kk185 : kkind 185 = 22 := by decide +kernel
theorem kk186 : kkind 186 = 22 := by decide +kernel
theorem kk187 : kkind 187 = 22 := by decide +kernel
theorem kk188 : kkind 188 = 22 := by decide +kernel
theorem kk189 : kkind 189 = 22 := by decide +kernel
theorem kk190 : kkind 190 = 22 := by decide +kernel
theorem kk191 : kkind 191 = 22 := by decide +kernel
theorem kk192 : kkind 192 = 22 := by decide +kernel
theorem kk193 : kkind 193 = 22 := by decide +kernel
theorem kk194 : kkind 194 = 22 := by decide +kernel
theorem kk195 : kkind 195 = 22 := by decide +kernel
theorem kk196 : kkind 196 = 22 := by decide +kernel
theorem kk197 : kkind 197 = 22 := by decide +kernel
theorem kk198 : kkind 198 = 20 := by decide +kernel
theorem kk199 : kkind 199 = 21 := by decide +kernel
theorem kk200 : kkind 200 = 20 := by decide +kernel
theorem kk201 : kkind 201 = 20 := by decide +kernel
theorem kk202 : kkind 202 = 20 := by decide +kernel
theorem kk203 : kkind 203 = 20 := by decide +kernel
theorem kk204 : kkind 204 = 20 := by decide +kernel
theorem kk205 : kkind 205 = 20 := by decide +kernel
theorem kk206 : kkind 206 = 20 := by decide +kernel
theorem kk207 : kkind 207 = 20 := by decide +kernel
theorem kk208 : kkind 208 = 20 := by decide +kernel
theorem kk209 : kkind 209 = 20 := by decide +kernel
theorem kk210 : kkind 210 = 20 := by decide +kernel
theorem kk211 : kkind 211 = 21 := by decide +kernel
theorem kk212 : kkind 212 = 20 := by decide +kernel
theorem kk213 : kkind 213 = 21 := by decide +kernel
theorem kk214 : kkind 214 = 20 := by decide +kernel
theorem kk215 : kkind 215 = 21 := by decide +kernel
theorem kk216 : kkind 216 = 20 := by decide +kernel
theorem kk217 : kkind 217 = 20 := by decide +kernel
theorem kk218 : kkind 218 = 22 := by decide +kernel
theorem kk219 : kkind 219 = 22 := by decide +kernel
theorem kk220 : kkind 220 = 22 := by decide +kernel
theorem kk221 : kkind 221 = 22 := by decide +kernel
theorem kk222 : kkind 222 = 22 := by decide +kernel
theorem kk223 : kkind 223 = 22 := by decide +kernel
theorem kk224 : kkind 224 = 22 := by decide +kernel
theorem kk225 : kkind 225 = 22 := by decide +kernel
theorem kk226 : kkind 226 = 22 := by decide +kernel
theorem kk227 : kkind 227 = 22 := by decide +kernel
theorem kk228 : kkind 228 = 22 := by decide +kernel
theorem kk229 : kkind 229 = 22 := by decide +kernel
theorem kk230 : kkind 230 = 22 := by decide +kernel
theorem kk231 : kkind 231 = 22 := by decide +kernel
theorem kk232 : kkind 232 = 22 := by decide +kernel
theorem kk233 : kkind 233 = 22 := by decide +kernel
theorem kk234 : kkind 234 = 22 := by decide +kernel
theorem kk235 : kkind 235 = 22 := by decide +kernel
theorem kk236 : kkind 236 = 22 := by decide +kernel
theorem kk237 : kkind 237 = 22 := by decide +kernel
theorem kk238 : kkind 238 = 22 := by decide +kernel
theorem kk239 : kkind 239 = 20 := by decide +kernel
theorem kk240 : kkind 240 = 20 := by decide +kernel
theorem kk241 : kkind 241 = 21 := by decide +kernel
theorem kk242 : kkind 242 = 20 := by decide +kernel
theorem kn2 : klen 2 = 1600 := by decide +kernel
theorem kn5 : klen 5 = 1600 := by decide +kernel
theorem kn6 : klen 6 = 64 := by decide +kernel
theorem kn7 : klen 7 = 33 := by decide +kernel
theorem kn9 : klen 9 = 27 := by decide +kernel
theorem kn13 : klen 13 = 6 := by decide +kernel
theorem kn14 : klen 14 = 5 := by decide +kernel
theorem kn15 : klen 15 = 5 := by decide +kernel
theorem kn16 : klen 16 = 5 := by decide +kernel
theorem kn17 : klen 17 = 5 := by decide +kernel
theorem kn18 : klen 18 = 5 := by decide +kernel
theorem kn19 : klen 19 = 5 := by decide +kernel
theorem kn20 : klen 20 = 6 := by decide +kernel
theorem kn21 : klen 21 = 2 := by decide +kernel
theorem kn22 : klen 22 = 2 := by decide +kernel
theorem kn23 : klen 23 = 2 := by decide +kernel
theorem kn24 : klen 24 = 2 := by decide +kernel
theorem kn25 : klen 25 = 2 := by decide +kernel
theorem kn26 : klen 26 = 2 := by decide +kernel
theorem kn27 : klen 27 = 5 := by decide +kernel
theorem kn28 : klen 28 = 3 := by decide +kernel
theorem kn29 : klen 29 = 3 := by decide +kernel
theorem kn30 : klen 30 = 3 := by decide +kernel
theorem kn31 : klen 31 = 3 := by decide +kernel
theorem kn32 : klen 32 = 3 := by decide +kernel
theorem kn34 : klen 34 = 1600 := by decide +kernel
theorem kn35 : klen 35 = 64 := by decide +kernel
theorem kn36 : klen 36 = 33 := by decide +kernel
theorem kn37 : klen 37 = 600 := by decide +kernel
theorem kn39 : klen 39 = 6 := by decide +kernel
theorem kn40 : klen 40 = 5 := by decide +kernel
theorem kn41 : klen 41 = 5 := by decide +kernel
theorem kn42 : klen 42 = 5 := by decide +kernel
theorem kn43 : klen 43 = 5 := by decide +kernel
theorem kn44 : klen 44 = 5 := by decide +kernel
theorem kn45 : klen 45 = 5 := by decide +kernel
theorem kn46 : klen 46 = 6 := by decide +kernel
theorem kn47 : klen 47 = 2 := by decide +kernel
theorem kn48 : klen 48 = 2 := by decide +kernel
theorem kn49 : klen 49 = 2 := by decide +kernel
theorem kn50 : klen 50 = 2 := by decide +kernel
theorem kn51 : klen 51 = 2 := by decide +kernel
theorem kn52 : klen 52 = 2 := by decide +kernel
theorem kn53 : klen 53 = 5 := by decide +kernel
theorem kn54 : klen 54 = 3 := by decide +kernel
theorem kn55 : klen 55 = 3 := by decide +kernel
theorem kn56 : klen 56 = 3 := by decide +kernel
theorem kn57 : klen 57 = 3 := by decide +kernel
theorem kn58 : klen 58 = 3 := by decide +kernel
theorem kn60 : klen 60 = 1600 := by decide +kernel
theorem kn61 : klen 61 = 64 := by decide +kernel
theorem kn62 : klen 62 = 33 := by decide +kernel
theorem kn63 : klen 63 = 600 := by decide +kernel
theorem kn65 : klen 65 = 6 := by decide +kernel
theorem kn66 : klen 66 = 6 := by decide +kernel
theorem kn67 : klen 67 = 10 := by decide +kernel
theorem kn69 : klen 69 = 6 := by decide +kernel
theorem kn70 : klen 70 = 6 := by decide +kernel
theorem kn71 : klen 71 = 10 := by decide +kernel
theorem kn73 : klen 73 = 20 := by decide +kernel
theorem kn74 : klen 74 = 4096 := by decide +kernel
theorem kn76 : klen 76 = 6 := by decide +kernel
theorem kn77 : klen 77 = 6 := by decide +kernel
theorem kn78 : klen 78 = 10 := by decide +kernel
theorem kn80 : klen 80 = 6 := by decide +kernel
theorem kn81 : klen 81 = 6 := by decide +kernel
theorem kn82 : klen 82 = 10 := by decide +kernel
theorem kn84 : klen 84 = 6 := by decide +kernel
theorem kn85 : klen 85 = 6 := by decide +kernel
theorem kn86 : klen 86 = 10 := by decide +kernel
theorem kn88 : klen 88 = 6 := by decide +kernel
theorem kn89 : klen 89 = 6 := by decide +kernel
theorem kn90 : klen 90 = 10 := by decide +kernel
theorem kn92 : klen 92 = 6 := by decide +kernel
theorem kn93 : klen 93 = 6 := by decide +kernel
theorem kn94 : klen 94 = 10 := by decide +kernel
theorem kn96 : klen 96 = 6 := by decide +kernel
theorem kn97 : klen 97 = 6 := by decide +kernel
theorem kn98 : klen 98 = 10 := by decide +kernel
theorem kn100 : klen 100 = 6 := by decide +kernel
theorem kn101 : klen 101 = 6 := by decide +kernel
theorem kn102 : klen 102 = 10 := by decide +kernel
theorem kn104 : klen 104 = 6 := by decide +kernel
theorem kn105 : klen 105 = 6 := by decide +kernel
theorem kn106 : klen 106 = 10 := by decide +kernel
theorem kn108 : klen 108 = 6 := by decide +kernel
theorem kn109 : klen 109 = 6 := by decide +kernel
theorem kn110 : klen 110 = 10 := by decide +kernel
theorem kn112 : klen 112 = 6 := by decide +kernel
theorem kn113 : klen 113 = 6 := by decide +kernel
theorem kn114 : klen 114 = 10 := by decide +kernel
theorem kn116 : klen 116 = 6 := by decide +kernel
theorem kn117 : klen 117 = 6 := by decide +kernel
theorem kn118 : klen 118 = 10 := by decide +kernel
theorem kn120 : klen 120 = 6 := by decide +kernel
theorem kn121 : klen 121 = 6 := by decide +kernel
theorem kn122 : klen 122 = 10 := by decide +kernel
theorem kn124 : klen 124 = 6 := by decide +kernel
theorem kn125 : klen 125 = 6 := by decide +kernel
theorem kn126 : klen 126 = 10 := by decide +kernel
theorem kn128 : klen 128 = 6 := by decide +kernel
theorem kn129 : klen 129 = 6 := by decide +kernel
theorem kn130 : klen 130 = 10 := by decide +kernel
theorem kn132 : klen 132 = 6 := by decide +kernel
theorem kn133 : klen 133 = 6 := by decide +kernel
theorem kn134 : klen 134 = 10 := by decide +kernel
theorem kn136 : klen 136 = 6 := by decide +kernel
theorem kn137 : klen 137 = 6 := by decide +kernel
theorem kn138 : klen 138 = 10 := by decide +kernel
theorem kn140 : klen 140 = 6 := by decide +kernel
theorem kn141 : klen 141 = 6 := by decide +kernel
theorem kn142 : klen 142 = 10 := by decide +kernel
theorem kn144 : klen 144 = 6 := by decide +kernel
theorem kn145 : klen 145 = 6 := by decide +kernel
theorem kn146 : klen 146 = 10 := by decide +kernel
theorem kn148 : klen 148 = 6 := by decide +kernel
theorem kn149 : klen 149 = 6 := by decide +kernel
theorem kn150 : klen 150 = 10 := by decide +kernel
theorem kn152 : klen 152 = 6 := by decide +kernel
theorem kn153 : klen 153 = 6 := by decide +kernel
theorem kn154 : klen 154 = 10 := by decide +kernel
theorem kn156 : klen 156 = 30 := by decide +kernel
theorem kn157 : klen 157 = 30 := by decide +kernel
theorem kn159 : klen 159 = 6 := by decide +kernel
theorem kn160 : klen 160 = 6 := by decide +kernel
theorem kn161 : klen 161 = 10 := by decide +kernel
theorem kn163 : klen 163 = 72 := by decide +kernel
theorem kn164 : klen 164 = 72 := by decide +kernel
theorem kn165 : klen 165 = 72 := by decide +kernel
theorem kn166 : klen 166 = 2 := by decide +kernel
theorem kn167 : klen 167 = 12 := by decide +kernel
theorem kn168 : klen 168 = 4096 := by decide +kernel
theorem kn169 : klen 169 = 4096 := by decide +kernel
theorem kn170 : klen 170 = 64 := by decide +kernel
theorem kn171 : klen 171 = 27 := by decide +kernel
theorem kn172 : klen 172 = 6 := by decide +kernel
theorem kn174 : klen 174 = 1600 := by decide +kernel
theorem kn175 : klen 175 = 6 := by decide +kernel
theorem kn176 : klen 176 = 4 := by decide +kernel
theorem kn177 : klen 177 = 4 := by decide +kernel
theorem kn178 : klen 178 = 3 := by decide +kernel
theorem kn179 : klen 179 = 4 := by decide +kernel
theorem kn180 : klen 180 = 5 := by decide +kernel
theorem kn181 : klen 181 = 4 := by decide +kernel
theorem kn182 : klen 182 = 4 := by decide +kernel
theorem kn183 : klen 183 = 4 := by decide +kernel
theorem kn184 : klen 184 = 6 := by decide +kernel
theorem kn185 : klen 185 = 5 := by decide +kernel
theorem kn186 : klen 186 = 5 := by decide +kernel
theorem kn187 : klen 187 = 5 := by decide +kernel
theorem kn188 : klen 188 = 5 := by decide +kernel
theorem kn189 : klen 189 = 6 := by decide +kernel
theorem kn190 : klen 190 = 5 := by decide +kernel
theorem kn191 : klen 191 = 4 := by decide +kernel
theorem kn192 : klen 192 = 2 := by decide +kernel
theorem kn193 : klen 193 = 3 := by decide +kernel
theorem kn194 : klen 194 = 3 := by decide +kernel
theorem kn195 : klen 195 = 3 := by decide +kernel
theorem kn196 : klen 196 = 3 := by decide +kernel
theorem kn197 : klen 197 = 3 := by decide +kernel
theorem kn198 : klen 198 = 6 := by decide +kernel
theorem kn199 : klen 199 = 36 := by decide +kernel
theorem kn200 : klen 200 = 48 := by decide +kernel
theorem kn201 : klen 201 = 12 := by decide +kernel
theorem kn202 : klen 202 = 20 := by decide +kernel
theorem kn203 : klen 203 = 4 := by decide +kernel
theorem kn204 : klen 204 = 2 := by decide +kernel
theorem kn205 : klen 205 = 2 := by decide +kernel
theorem kn206 : klen 206 = 3200 := by decide +kernel
theorem kn207 : klen 207 = 185 := by decide +kernel
theorem kn208 : klen 208 = 24 := by decide +kernel
theorem kn209 : klen 209 = 72 := by decide +kernel
theorem kn210 : klen 210 = 36 := by decide +kernel
theorem kn211 : klen 211 = 6 := by decide +kernel
theorem kn212 : klen 212 = 6 := by decide +kernel
theorem kn213 : klen 213 = 72 := by decide +kernel
theorem kn214 : klen 214 = 72 := by decide +kernel
theorem kn215 : klen 215 = 8192 := by decide +kernel
theorem kn216 : klen 216 = 64 := by decide +kernel
theorem kn217 : klen 217 = 3700 := by decide +kernel
theorem kn218 : klen 218 = 5 := by decide +kernel
theorem kn219 : klen 219 = 4 := by decide +kernel
theorem kn220 : klen 220 = 5 := by decide +kernel
theorem kn221 : klen 221 = 5 := by decide +kernel
theorem kn222 : klen 222 = 4 := by decide +kernel
theorem kn223 : klen 223 = 5 := by decide +kernel
theorem kn224 : klen 224 = 3 := by decide +kernel
theorem kn225 : klen 225 = 3 := by decide +kernel
theorem kn226 : klen 226 = 2 := by decide +kernel
theorem kn227 : klen 227 = 3 := by decide +kernel
theorem kn228 : klen 228 = 3 := by decide +kernel
theorem kn229 : klen 229 = 3 := by decide +kernel
theorem kn230 : klen 230 = 4 := by decide +kernel
theorem kn231 : klen 231 = 3 := by decide +kernel
theorem kn232 : klen 232 = 4 := by decide +kernel
theorem kn233 : klen 233 = 5 := by decide +kernel
theorem kn234 : klen 234 = 5 := by decide +kernel
theorem kn235 : klen 235 = 6 := by decide +kernel
theorem kn236 : klen 236 = 5 := by decide +kernel
theorem kn237 : klen 237 = 4 := by decide +kernel
theorem kn238 : klen 238 = 6 := by decide +kernel
theorem kn239 : klen 239 = 1700 := by decide +kernel
theorem kn240 : klen 240 = 1700 := by decide +kernel
theorem kn241 : klen 241 = 1700 := by decide +kernel
theorem kn242 : klen 242 = 27 := by decide +kernel
/-- the references: those of the table; court and spareCourt (0, 5 and 6) are the two Courts, this way or that; the code of the grammar is one of three -/
def kRefs (h : KH) : Prop := h.1 = 243 ∧ (∀ l, l < 243 → ∀ i, i < (krt.getD l []).length → ¬ (l = 0 ∧ (i = 5 ∨ i = 6)) → ¬ (l = 10 ∧ i = 1) → kR h l i = (krt.getD l []).getD i 0) ∧ ((kR h 0 5 = 12 ∧ kR h 0 6 = 38) ∨ (kR h 0 5 = 38 ∧ kR h 0 6 = 12)) ∧ (kR h 10 1 = 4 ∨ kR h 10 1 = 33 ∨ kR h 10 1 = 59)
theorem rf0_0 {h : KH} (hr : kRefs h) : kR h 0 0 = 1 := hr.2.1 0 (by decide) 0 (by decide) (by decide) (by decide)
theorem rf0_1 {h : KH} (hr : kRefs h) : kR h 0 1 = 3 := hr.2.1 0 (by decide) 1 (by decide) (by decide) (by decide)
theorem rf0_2 {h : KH} (hr : kRefs h) : kR h 0 2 = 8 := hr.2.1 0 (by decide) 2 (by decide) (by decide) (by decide)
theorem rf0_3 {h : KH} (hr : kRefs h) : kR h 0 3 = 10 := hr.2.1 0 (by decide) 3 (by decide) (by decide) (by decide)
theorem rf0_4 {h : KH} (hr : kRefs h) : kR h 0 4 = 11 := hr.2.1 0 (by decide) 4 (by decide) (by decide) (by decide)
theorem rf0_7 {h : KH} (hr : kRefs h) : kR h 0 7 = 64 := hr.2.1 0 (by decide) 7 (by decide) (by decide) (by decide)
theorem rf0_8 {h : KH} (hr : kRefs h) : kR h 0 8 = 68 := hr.2.1 0 (by decide) 8 (by decide) (by decide) (by decide)
theorem rf0_9 {h : KH} (hr : kRefs h) : kR h 0 9 = 72 := hr.2.1 0 (by decide) 9 (by decide) (by decide) (by decide)
theorem rf0_10 {h : KH} (hr : kRefs h) : kR h 0 10 = 155 := hr.2.1 0 (by decide) 10 (by decide) (by decide) (by decide)
theorem rf0_11 {h : KH} (hr : kRefs h) : kR h 0 11 = 162 := hr.2.1 0 (by decide) 11 (by decide) (by decide) (by decide)
theorem rf0_12 {h : KH} (hr : kRefs h) : kR h 0 12 = 170 := hr.2.1 0 (by decide) 12 (by decide) (by decide) (by decide)
theorem rf0_15 {h : KH} (hr : kRefs h) : kR h 0 15 = 171 := hr.2.1 0 (by decide) 15 (by decide) (by decide) (by decide)
theorem rf0_17 {h : KH} (hr : kRefs h) : kR h 0 17 = 172 := hr.2.1 0 (by decide) 17 (by decide) (by decide) (by decide)
theorem rf1_0 {h : KH} (hr : kRefs h) : kR h 1 0 = 2 := hr.2.1 1 (by decide) 0 (by decide) (by decide) (by decide)
theorem rf3_0 {h : KH} (hr : kRefs h) : kR h 3 0 = 4 := hr.2.1 3 (by decide) 0 (by decide) (by decide) (by decide)
theorem rf3_1 {h : KH} (hr : kRefs h) : kR h 3 1 = 7 := hr.2.1 3 (by decide) 1 (by decide) (by decide) (by decide)
theorem rf4_0 {h : KH} (hr : kRefs h) : kR h 4 0 = 5 := hr.2.1 4 (by decide) 0 (by decide) (by decide) (by decide)
theorem rf4_1 {h : KH} (hr : kRefs h) : kR h 4 1 = 6 := hr.2.1 4 (by decide) 1 (by decide) (by decide) (by decide)
theorem rf8_0 {h : KH} (hr : kRefs h) : kR h 8 0 = 1 := hr.2.1 8 (by decide) 0 (by decide) (by decide) (by decide)
theorem rf8_1 {h : KH} (hr : kRefs h) : kR h 8 1 = 9 := hr.2.1 8 (by decide) 1 (by decide) (by decide) (by decide)
theorem rf10_0 {h : KH} (hr : kRefs h) : kR h 10 0 = 8 := hr.2.1 10 (by decide) 0 (by decide) (by decide) (by decide)
theorem rf11_0 {h : KH} (hr : kRefs h) : kR h 11 0 = 8 := hr.2.1 11 (by decide) 0 (by decide) (by decide) (by decide)
theorem rf11_1 {h : KH} (hr : kRefs h) : kR h 11 1 = 10 := hr.2.1 11 (by decide) 1 (by decide) (by decide) (by decide)
theorem rf12_0 {h : KH} (hr : kRefs h) : kR h 12 0 = 13 := hr.2.1 12 (by decide) 0 (by decide) (by decide) (by decide)
theorem rf12_1 {h : KH} (hr : kRefs h) : kR h 12 1 = 20 := hr.2.1 12 (by decide) 1 (by decide) (by decide) (by decide)
theorem rf12_2 {h : KH} (hr : kRefs h) : kR h 12 2 = 27 := hr.2.1 12 (by decide) 2 (by decide) (by decide) (by decide)
theorem rf12_9 {h : KH} (hr : kRefs h) : kR h 12 9 = 33 := hr.2.1 12 (by decide) 9 (by decide) (by decide) (by decide)
theorem rf12_10 {h : KH} (hr : kRefs h) : kR h 12 10 = 36 := hr.2.1 12 (by decide) 10 (by decide) (by decide) (by decide)
theorem rf12_11 {h : KH} (hr : kRefs h) : kR h 12 11 = 37 := hr.2.1 12 (by decide) 11 (by decide) (by decide) (by decide)
theorem rf13_0 {h : KH} (hr : kRefs h) : kR h 13 0 = 14 := hr.2.1 13 (by decide) 0 (by decide) (by decide) (by decide)
theorem rf13_1 {h : KH} (hr : kRefs h) : kR h 13 1 = 15 := hr.2.1 13 (by decide) 1 (by decide) (by decide) (by decide)
theorem rf13_2 {h : KH} (hr : kRefs h) : kR h 13 2 = 16 := hr.2.1 13 (by decide) 2 (by decide) (by decide) (by decide)
theorem rf13_3 {h : KH} (hr : kRefs h) : kR h 13 3 = 17 := hr.2.1 13 (by decide) 3 (by decide) (by decide) (by decide)
theorem rf13_4 {h : KH} (hr : kRefs h) : kR h 13 4 = 18 := hr.2.1 13 (by decide) 4 (by decide) (by decide) (by decide)
theorem rf13_5 {h : KH} (hr : kRefs h) : kR h 13 5 = 19 := hr.2.1 13 (by decide) 5 (by decide) (by decide) (by decide)
theorem rf20_0 {h : KH} (hr : kRefs h) : kR h 20 0 = 21 := hr.2.1 20 (by decide) 0 (by decide) (by decide) (by decide)
theorem rf20_1 {h : KH} (hr : kRefs h) : kR h 20 1 = 22 := hr.2.1 20 (by decide) 1 (by decide) (by decide) (by decide)
theorem rf20_2 {h : KH} (hr : kRefs h) : kR h 20 2 = 23 := hr.2.1 20 (by decide) 2 (by decide) (by decide) (by decide)
theorem rf20_3 {h : KH} (hr : kRefs h) : kR h 20 3 = 24 := hr.2.1 20 (by decide) 3 (by decide) (by decide) (by decide)
theorem rf20_4 {h : KH} (hr : kRefs h) : kR h 20 4 = 25 := hr.2.1 20 (by decide) 4 (by decide) (by decide) (by decide)
theorem rf20_5 {h : KH} (hr : kRefs h) : kR h 20 5 = 26 := hr.2.1 20 (by decide) 5 (by decide) (by decide) (by decide)
theorem rf27_0 {h : KH} (hr : kRefs h) : kR h 27 0 = 28 := hr.2.1 27 (by decide) 0 (by decide) (by decide) (by decide)
theorem rf27_1 {h : KH} (hr : kRefs h) : kR h 27 1 = 29 := hr.2.1 27 (by decide) 1 (by decide) (by decide) (by decide)
theorem rf27_2 {h : KH} (hr : kRefs h) : kR h 27 2 = 30 := hr.2.1 27 (by decide) 2 (by decide) (by decide) (by decide)
theorem rf27_3 {h : KH} (hr : kRefs h) : kR h 27 3 = 31 := hr.2.1 27 (by decide) 3 (by decide) (by decide) (by decide)
theorem rf27_4 {h : KH} (hr : kRefs h) : kR h 27 4 = 32 := hr.2.1 27 (by decide) 4 (by decide) (by decide) (by decide)
theorem rf33_0 {h : KH} (hr : kRefs h) : kR h 33 0 = 34 := hr.2.1 33 (by decide) 0 (by decide) (by decide) (by decide)
theorem rf33_1 {h : KH} (hr : kRefs h) : kR h 33 1 = 35 := hr.2.1 33 (by decide) 1 (by decide) (by decide) (by decide)
theorem rf38_0 {h : KH} (hr : kRefs h) : kR h 38 0 = 39 := hr.2.1 38 (by decide) 0 (by decide) (by decide) (by decide)
theorem rf38_1 {h : KH} (hr : kRefs h) : kR h 38 1 = 46 := hr.2.1 38 (by decide) 1 (by decide) (by decide) (by decide)
theorem rf38_2 {h : KH} (hr : kRefs h) : kR h 38 2 = 53 := hr.2.1 38 (by decide) 2 (by decide) (by decide) (by decide)
theorem rf38_9 {h : KH} (hr : kRefs h) : kR h 38 9 = 59 := hr.2.1 38 (by decide) 9 (by decide) (by decide) (by decide)
theorem rf38_10 {h : KH} (hr : kRefs h) : kR h 38 10 = 62 := hr.2.1 38 (by decide) 10 (by decide) (by decide) (by decide)
theorem rf38_11 {h : KH} (hr : kRefs h) : kR h 38 11 = 63 := hr.2.1 38 (by decide) 11 (by decide) (by decide) (by decide)
theorem rf39_0 {h : KH} (hr : kRefs h) : kR h 39 0 = 40 := hr.2.1 39 (by decide) 0 (by decide) (by decide) (by decide)
theorem rf39_1 {h : KH} (hr : kRefs h) : kR h 39 1 = 41 := hr.2.1 39 (by decide) 1 (by decide) (by decide) (by decide)
theorem rf39_2 {h : KH} (hr : kRefs h) : kR h 39 2 = 42 := hr.2.1 39 (by decide) 2 (by decide) (by decide) (by decide)
theorem rf39_3 {h : KH} (hr : kRefs h) : kR h 39 3 = 43 := hr.2.1 39 (by decide) 3 (by decide) (by decide) (by decide)
theorem rf39_4 {h : KH} (hr : kRefs h) : kR h 39 4 = 44 := hr.2.1 39 (by decide) 4 (by decide) (by decide) (by decide)
theorem rf39_5 {h : KH} (hr : kRefs h) : kR h 39 5 = 45 := hr.2.1 39 (by decide) 5 (by decide) (by decide) (by decide)
theorem rf46_0 {h : KH} (hr : kRefs h) : kR h 46 0 = 47 := hr.2.1 46 (by decide) 0 (by decide) (by decide) (by decide)
theorem rf46_1 {h : KH} (hr : kRefs h) : kR h 46 1 = 48 := hr.2.1 46 (by decide) 1 (by decide) (by decide) (by decide)
theorem rf46_2 {h : KH} (hr : kRefs h) : kR h 46 2 = 49 := hr.2.1 46 (by decide) 2 (by decide) (by decide) (by decide)
theorem rf46_3 {h : KH} (hr : kRefs h) : kR h 46 3 = 50 := hr.2.1 46 (by decide) 3 (by decide) (by decide) (by decide)
theorem rf46_4 {h : KH} (hr : kRefs h) : kR h 46 4 = 51 := hr.2.1 46 (by decide) 4 (by decide) (by decide) (by decide)
theorem rf46_5 {h : KH} (hr : kRefs h) : kR h 46 5 = 52 := hr.2.1 46 (by decide) 5 (by decide) (by decide) (by decide)
theorem rf53_0 {h : KH} (hr : kRefs h) : kR h 53 0 = 54 := hr.2.1 53 (by decide) 0 (by decide) (by decide) (by decide)
theorem rf53_1 {h : KH} (hr : kRefs h) : kR h 53 1 = 55 := hr.2.1 53 (by decide) 1 (by decide) (by decide) (by decide)
theorem rf53_2 {h : KH} (hr : kRefs h) : kR h 53 2 = 56 := hr.2.1 53 (by decide) 2 (by decide) (by decide) (by decide)
theorem rf53_3 {h : KH} (hr : kRefs h) : kR h 53 3 = 57 := hr.2.1 53 (by decide) 3 (by decide) (by decide) (by decide)
theorem rf53_4 {h : KH} (hr : kRefs h) : kR h 53 4 = 58 := hr.2.1 53 (by decide) 4 (by decide) (by decide) (by decide)
theorem rf59_0 {h : KH} (hr : kRefs h) : kR h 59 0 = 60 := hr.2.1 59 (by decide) 0 (by decide) (by decide) (by decide)
theorem rf59_1 {h : KH} (hr : kRefs h) : kR h 59 1 = 61 := hr.2.1 59 (by decide) 1 (by decide) (by decide) (by decide)
theorem rf64_3 {h : KH} (hr : kRefs h) : kR h 64 3 = 65 := hr.2.1 64 (by decide) 3 (by decide) (by decide) (by decide)
theorem rf64_4 {h : KH} (hr : kRefs h) : kR h 64 4 = 66 := hr.2.1 64 (by decide) 4 (by decide) (by decide) (by decide)
theorem rf64_5 {h : KH} (hr : kRefs h) : kR h 64 5 = 67 := hr.2.1 64 (by decide) 5 (by decide) (by decide) (by decide)
theorem rf68_3 {h : KH} (hr : kRefs h) : kR h 68 3 = 69 := hr.2.1 68 (by decide) 3 (by decide) (by decide) (by decide)
theorem rf68_4 {h : KH} (hr : kRefs h) : kR h 68 4 = 70 := hr.2.1 68 (by decide) 4 (by decide) (by decide) (by decide)
theorem rf68_5 {h : KH} (hr : kRefs h) : kR h 68 5 = 71 := hr.2.1 68 (by decide) 5 (by decide) (by decide) (by decide)
theorem rf72_0 {h : KH} (hr : kRefs h) : kR h 72 0 = 73 := hr.2.1 72 (by decide) 0 (by decide) (by decide) (by decide)
theorem rf72_1 {h : KH} (hr : kRefs h) : kR h 72 1 = 74 := hr.2.1 72 (by decide) 1 (by decide) (by decide) (by decide)
theorem rf73_0 {h : KH} (hr : kRefs h) : kR h 73 0 = 75 := hr.2.1 73 (by decide) 0 (by decide) (by decide) (by decide)
theorem rf73_1 {h : KH} (hr : kRefs h) : kR h 73 1 = 79 := hr.2.1 73 (by decide) 1 (by decide) (by decide) (by decide)
theorem rf73_2 {h : KH} (hr : kRefs h) : kR h 73 2 = 83 := hr.2.1 73 (by decide) 2 (by decide) (by decide) (by decide)
theorem rf73_3 {h : KH} (hr : kRefs h) : kR h 73 3 = 87 := hr.2.1 73 (by decide) 3 (by decide) (by decide) (by decide)
theorem rf73_4 {h : KH} (hr : kRefs h) : kR h 73 4 = 91 := hr.2.1 73 (by decide) 4 (by decide) (by decide) (by decide)
theorem rf73_5 {h : KH} (hr : kRefs h) : kR h 73 5 = 95 := hr.2.1 73 (by decide) 5 (by decide) (by decide) (by decide)
theorem rf73_6 {h : KH} (hr : kRefs h) : kR h 73 6 = 99 := hr.2.1 73 (by decide) 6 (by decide) (by decide) (by decide)
theorem rf73_7 {h : KH} (hr : kRefs h) : kR h 73 7 = 103 := hr.2.1 73 (by decide) 7 (by decide) (by decide) (by decide)
theorem rf73_8 {h : KH} (hr : kRefs h) : kR h 73 8 = 107 := hr.2.1 73 (by decide) 8 (by decide) (by decide) (by decide)
theorem rf73_9 {h : KH} (hr : kRefs h) : kR h 73 9 = 111 := hr.2.1 73 (by decide) 9 (by decide) (by decide) (by decide)
theorem rf73_10 {h : KH} (hr : kRefs h) : kR h 73 10 = 115 := hr.2.1 73 (by decide) 10 (by decide) (by decide) (by decide)
theorem rf73_11 {h : KH} (hr : kRefs h) : kR h 73 11 = 119 := hr.2.1 73 (by decide) 11 (by decide) (by decide) (by decide)
theorem rf73_12 {h : KH} (hr : kRefs h) : kR h 73 12 = 123 := hr.2.1 73 (by decide) 12 (by decide) (by decide) (by decide)
theorem rf73_13 {h : KH} (hr : kRefs h) : kR h 73 13 = 127 := hr.2.1 73 (by decide) 13 (by decide) (by decide) (by decide)
theorem rf73_14 {h : KH} (hr : kRefs h) : kR h 73 14 = 131 := hr.2.1 73 (by decide) 14 (by decide) (by decide) (by decide)
theorem rf73_15 {h : KH} (hr : kRefs h) : kR h 73 15 = 135 := hr.2.1 73 (by decide) 15 (by decide) (by decide) (by decide)
theorem rf73_16 {h : KH} (hr : kRefs h) : kR h 73 16 = 139 := hr.2.1 73 (by decide) 16 (by decide) (by decide) (by decide)
theorem rf73_17 {h : KH} (hr : kRefs h) : kR h 73 17 = 143 := hr.2.1 73 (by decide) 17 (by decide) (by decide) (by decide)
theorem rf73_18 {h : KH} (hr : kRefs h) : kR h 73 18 = 147 := hr.2.1 73 (by decide) 18 (by decide) (by decide) (by decide)
theorem rf73_19 {h : KH} (hr : kRefs h) : kR h 73 19 = 151 := hr.2.1 73 (by decide) 19 (by decide) (by decide) (by decide)
theorem rf75_3 {h : KH} (hr : kRefs h) : kR h 75 3 = 76 := hr.2.1 75 (by decide) 3 (by decide) (by decide) (by decide)
theorem rf75_4 {h : KH} (hr : kRefs h) : kR h 75 4 = 77 := hr.2.1 75 (by decide) 4 (by decide) (by decide) (by decide)
theorem rf75_5 {h : KH} (hr : kRefs h) : kR h 75 5 = 78 := hr.2.1 75 (by decide) 5 (by decide) (by decide) (by decide)
theorem rf79_3 {h : KH} (hr : kRefs h) : kR h 79 3 = 80 := hr.2.1 79 (by decide) 3 (by decide) (by decide) (by decide)
theorem rf79_4 {h : KH} (hr : kRefs h) : kR h 79 4 = 81 := hr.2.1 79 (by decide) 4 (by decide) (by decide) (by decide)
theorem rf79_5 {h : KH} (hr : kRefs h) : kR h 79 5 = 82 := hr.2.1 79 (by decide) 5 (by decide) (by decide) (by decide)
theorem rf83_3 {h : KH} (hr : kRefs h) : kR h 83 3 = 84 := hr.2.1 83 (by decide) 3 (by decide) (by decide) (by decide)
theorem rf83_4 {h : KH} (hr : kRefs h) : kR h 83 4 = 85 := hr.2.1 83 (by decide) 4 (by decide) (by decide) (by decide)
theorem rf83_5 {h : KH} (hr : kRefs h) : kR h 83 5 = 86 := hr.2.1 83 (by decide) 5 (by decide) (by decide) (by decide)
theorem rf87_3 {h : KH} (hr : kRefs h) : kR h 87 3 = 88 := hr.2.1 87 (by decide) 3 (by decide) (by decide) (by decide)
theorem rf87_4 {h : KH} (hr : kRefs h) : kR h 87 4 = 89 := hr.2.1 87 (by decide) 4 (by decide) (by decide) (by decide)
theorem rf87_5 {h : KH} (hr : kRefs h) : kR h 87 5 = 90 := hr.2.1 87 (by decide) 5 (by decide) (by decide) (by decide)
theorem rf91_3 {h : KH} (hr : kRefs h) : kR h 91 3 = 92 := hr.2.1 91 (by decide) 3 (by decide) (by decide) (by decide)
theorem rf91_4 {h : KH} (hr : kRefs h) : kR h 91 4 = 93 := hr.2.1 91 (by decide) 4 (by decide) (by decide) (by decide)
theorem rf91_5 {h : KH} (hr : kRefs h) : kR h 91 5 = 94 := hr.2.1 91 (by decide) 5 (by decide) (by decide) (by decide)
theorem rf95_3 {h : KH} (hr : kRefs h) : kR h 95 3 = 96 := hr.2.1 95 (by decide) 3 (by decide) (by decide) (by decide)
theorem rf95_4 {h : KH} (hr : kRefs h) : kR h 95 4 = 97 := hr.2.1 95 (by decide) 4 (by decide) (by decide) (by decide)
theorem rf95_5 {h : KH} (hr : kRefs h) : kR h 95 5 = 98 := hr.2.1 95 (by decide) 5 (by decide) (by decide) (by decide)
theorem rf99_3 {h : KH} (hr : kRefs h) : kR h 99 3 = 100 := hr.2.1 99 (by decide) 3 (by decide) (by decide) (by decide)
theorem rf99_4 {h : KH} (hr : kRefs h) : kR h 99 4 = 101 := hr.2.1 99 (by decide) 4 (by decide) (by decide) (by decide)
theorem rf99_5 {h : KH} (hr : kRefs h) : kR h 99 5 = 102 := hr.2.1 99 (by decide) 5 (by decide) (by decide) (by decide)
theorem rf103_3 {h : KH} (hr : kRefs h) : kR h 103 3 = 104 := hr.2.1 103 (by decide) 3 (by decide) (by decide) (by decide)
theorem rf103_4 {h : KH} (hr : kRefs h) : kR h 103 4 = 105 := hr.2.1 103 (by decide) 4 (by decide) (by decide) (by decide)
theorem rf103_5 {h : KH} (hr : kRefs h) : kR h 103 5 = 106 := hr.2.1 103 (by decide) 5 (by decide) (by decide) (by decide)
theorem rf107_3 {h : KH} (hr : kRefs h) : kR h 107 3 = 108 := hr.2.1 107 (by decide) 3 (by decide) (by decide) (by decide)
theorem rf107_4 {h : KH} (hr : kRefs h) : kR h 107 4 = 109 := hr.2.1 107 (by decide) 4 (by decide) (by decide) (by decide)
theorem rf107_5 {h : KH} (hr : kRefs h) : kR h 107 5 = 110 := hr.2.1 107 (by decide) 5 (by decide) (by decide) (by decide)
theorem rf111_3 {h : KH} (hr : kRefs h) : kR h 111 3 = 112 := hr.2.1 111 (by decide) 3 (by decide) (by decide) (by decide)
theorem rf111_4 {h : KH} (hr : kRefs h) : kR h 111 4 = 113 := hr.2.1 111 (by decide) 4 (by decide) (by decide) (by decide)
theorem rf111_5 {h : KH} (hr : kRefs h) : kR h 111 5 = 114 := hr.2.1 111 (by decide) 5 (by decide) (by decide) (by decide)
theorem rf115_3 {h : KH} (hr : kRefs h) : kR h 115 3 = 116 := hr.2.1 115 (by decide) 3 (by decide) (by decide) (by decide)
theorem rf115_4 {h : KH} (hr : kRefs h) : kR h 115 4 = 117 := hr.2.1 115 (by decide) 4 (by decide) (by decide) (by decide)
theorem rf115_5 {h : KH} (hr : kRefs h) : kR h 115 5 = 118 := hr.2.1 115 (by decide) 5 (by decide) (by decide) (by decide)
theorem rf119_3 {h : KH} (hr : kRefs h) : kR h 119 3 = 120 := hr.2.1 119 (by decide) 3 (by decide) (by decide) (by decide)
theorem rf119_4 {h : KH} (hr : kRefs h) : kR h 119 4 = 121 := hr.2.1 119 (by decide) 4 (by decide) (by decide) (by decide)
theorem rf119_5 {h : KH} (hr : kRefs h) : kR h 119 5 = 122 := hr.2.1 119 (by decide) 5 (by decide) (by decide) (by decide)
theorem rf123_3 {h : KH} (hr : kRefs h) : kR h 123 3 = 124 := hr.2.1 123 (by decide) 3 (by decide) (by decide) (by decide)
theorem rf123_4 {h : KH} (hr : kRefs h) : kR h 123 4 = 125 := hr.2.1 123 (by decide) 4 (by decide) (by decide) (by decide)
theorem rf123_5 {h : KH} (hr : kRefs h) : kR h 123 5 = 126 := hr.2.1 123 (by decide) 5 (by decide) (by decide) (by decide)
theorem rf127_3 {h : KH} (hr : kRefs h) : kR h 127 3 = 128 := hr.2.1 127 (by decide) 3 (by decide) (by decide) (by decide)
theorem rf127_4 {h : KH} (hr : kRefs h) : kR h 127 4 = 129 := hr.2.1 127 (by decide) 4 (by decide) (by decide) (by decide)
theorem rf127_5 {h : KH} (hr : kRefs h) : kR h 127 5 = 130 := hr.2.1 127 (by decide) 5 (by decide) (by decide) (by decide)
theorem rf131_3 {h : KH} (hr : kRefs h) : kR h 131 3 = 132 := hr.2.1 131 (by decide) 3 (by decide) (by decide) (by decide)
theorem rf131_4 {h : KH} (hr : kRefs h) : kR h 131 4 = 133 := hr.2.1 131 (by decide) 4 (by decide) (by decide) (by decide)
theorem rf131_5 {h : KH} (hr : kRefs h) : kR h 131 5 = 134 := hr.2.1 131 (by decide) 5 (by decide) (by decide) (by decide)
theorem rf135_3 {h : KH} (hr : kRefs h) : kR h 135 3 = 136 := hr.2.1 135 (by decide) 3 (by decide) (by decide) (by decide)
theorem rf135_4 {h : KH} (hr : kRefs h) : kR h 135 4 = 137 := hr.2.1 135 (by decide) 4 (by decide) (by decide) (by decide)
theorem rf135_5 {h : KH} (hr : kRefs h) : kR h 135 5 = 138 := hr.2.1 135 (by decide) 5 (by decide) (by decide) (by decide)
theorem rf139_3 {h : KH} (hr : kRefs h) : kR h 139 3 = 140 := hr.2.1 139 (by decide) 3 (by decide) (by decide) (by decide)
theorem rf139_4 {h : KH} (hr : kRefs h) : kR h 139 4 = 141 := hr.2.1 139 (by decide) 4 (by decide) (by decide) (by decide)
theorem rf139_5 {h : KH} (hr : kRefs h) : kR h 139 5 = 142 := hr.2.1 139 (by decide) 5 (by decide) (by decide) (by decide)
theorem rf143_3 {h : KH} (hr : kRefs h) : kR h 143 3 = 144 := hr.2.1 143 (by decide) 3 (by decide) (by decide) (by decide)
theorem rf143_4 {h : KH} (hr : kRefs h) : kR h 143 4 = 145 := hr.2.1 143 (by decide) 4 (by decide) (by decide) (by decide)
theorem rf143_5 {h : KH} (hr : kRefs h) : kR h 143 5 = 146 := hr.2.1 143 (by decide) 5 (by decide) (by decide) (by decide)
theorem rf147_3 {h : KH} (hr : kRefs h) : kR h 147 3 = 148 := hr.2.1 147 (by decide) 3 (by decide) (by decide) (by decide)
theorem rf147_4 {h : KH} (hr : kRefs h) : kR h 147 4 = 149 := hr.2.1 147 (by decide) 4 (by decide) (by decide) (by decide)
theorem rf147_5 {h : KH} (hr : kRefs h) : kR h 147 5 = 150 := hr.2.1 147 (by decide) 5 (by decide) (by decide) (by decide)
theorem rf151_3 {h : KH} (hr : kRefs h) : kR h 151 3 = 152 := hr.2.1 151 (by decide) 3 (by decide) (by decide) (by decide)
theorem rf151_4 {h : KH} (hr : kRefs h) : kR h 151 4 = 153 := hr.2.1 151 (by decide) 4 (by decide) (by decide) (by decide)
theorem rf151_5 {h : KH} (hr : kRefs h) : kR h 151 5 = 154 := hr.2.1 151 (by decide) 5 (by decide) (by decide) (by decide)
theorem rf155_0 {h : KH} (hr : kRefs h) : kR h 155 0 = 156 := hr.2.1 155 (by decide) 0 (by decide) (by decide) (by decide)
theorem rf155_1 {h : KH} (hr : kRefs h) : kR h 155 1 = 157 := hr.2.1 155 (by decide) 1 (by decide) (by decide) (by decide)
theorem rf155_2 {h : KH} (hr : kRefs h) : kR h 155 2 = 158 := hr.2.1 155 (by decide) 2 (by decide) (by decide) (by decide)
theorem rf158_3 {h : KH} (hr : kRefs h) : kR h 158 3 = 159 := hr.2.1 158 (by decide) 3 (by decide) (by decide) (by decide)
theorem rf158_4 {h : KH} (hr : kRefs h) : kR h 158 4 = 160 := hr.2.1 158 (by decide) 4 (by decide) (by decide) (by decide)
theorem rf158_5 {h : KH} (hr : kRefs h) : kR h 158 5 = 161 := hr.2.1 158 (by decide) 5 (by decide) (by decide) (by decide)
theorem rf162_0 {h : KH} (hr : kRefs h) : kR h 162 0 = 163 := hr.2.1 162 (by decide) 0 (by decide) (by decide) (by decide)
theorem rf162_1 {h : KH} (hr : kRefs h) : kR h 162 1 = 164 := hr.2.1 162 (by decide) 1 (by decide) (by decide) (by decide)
theorem rf162_2 {h : KH} (hr : kRefs h) : kR h 162 2 = 165 := hr.2.1 162 (by decide) 2 (by decide) (by decide) (by decide)
theorem rf162_4 {h : KH} (hr : kRefs h) : kR h 162 4 = 166 := hr.2.1 162 (by decide) 4 (by decide) (by decide) (by decide)
theorem rf162_5 {h : KH} (hr : kRefs h) : kR h 162 5 = 167 := hr.2.1 162 (by decide) 5 (by decide) (by decide) (by decide)
theorem rf162_6 {h : KH} (hr : kRefs h) : kR h 162 6 = 168 := hr.2.1 162 (by decide) 6 (by decide) (by decide) (by decide)
theorem rf162_7 {h : KH} (hr : kRefs h) : kR h 162 7 = 169 := hr.2.1 162 (by decide) 7 (by decide) (by decide) (by decide)
theorem rf173_0 {h : KH} (hr : kRefs h) : kR h 173 0 = 174 := hr.2.1 173 (by decide) 0 (by decide) (by decide) (by decide)
theorem rf173_9 {h : KH} (hr : kRefs h) : kR h 173 9 = 175 := hr.2.1 173 (by decide) 9 (by decide) (by decide) (by decide)
theorem rf173_10 {h : KH} (hr : kRefs h) : kR h 173 10 = 176 := hr.2.1 173 (by decide) 10 (by decide) (by decide) (by decide)
theorem rf173_11 {h : KH} (hr : kRefs h) : kR h 173 11 = 177 := hr.2.1 173 (by decide) 11 (by decide) (by decide) (by decide)
theorem rf173_12 {h : KH} (hr : kRefs h) : kR h 173 12 = 178 := hr.2.1 173 (by decide) 12 (by decide) (by decide) (by decide)
theorem rf173_13 {h : KH} (hr : kRefs h) : kR h 173 13 = 179 := hr.2.1 173 (by decide) 13 (by decide) (by decide) (by decide)
theorem rf173_14 {h : KH} (hr : kRefs h) : kR h 173 14 = 180 := hr.2.1 173 (by decide) 14 (by decide) (by decide) (by decide)
theorem rf173_15 {h : KH} (hr : kRefs h) : kR h 173 15 = 181 := hr.2.1 173 (by decide) 15 (by decide) (by decide) (by decide)
theorem rf173_16 {h : KH} (hr : kRefs h) : kR h 173 16 = 182 := hr.2.1 173 (by decide) 16 (by decide) (by decide) (by decide)
theorem rf173_17 {h : KH} (hr : kRefs h) : kR h 173 17 = 183 := hr.2.1 173 (by decide) 17 (by decide) (by decide) (by decide)
theorem rf173_18 {h : KH} (hr : kRefs h) : kR h 173 18 = 184 := hr.2.1 173 (by decide) 18 (by decide) (by decide) (by decide)
theorem rf173_19 {h : KH} (hr : kRefs h) : kR h 173 19 = 185 := hr.2.1 173 (by decide) 19 (by decide) (by decide) (by decide)
theorem rf173_20 {h : KH} (hr : kRefs h) : kR h 173 20 = 186 := hr.2.1 173 (by decide) 20 (by decide) (by decide) (by decide)
theorem rf173_21 {h : KH} (hr : kRefs h) : kR h 173 21 = 187 := hr.2.1 173 (by decide) 21 (by decide) (by decide) (by decide)
theorem rf173_22 {h : KH} (hr : kRefs h) : kR h 173 22 = 188 := hr.2.1 173 (by decide) 22 (by decide) (by decide) (by decide)
theorem rf173_23 {h : KH} (hr : kRefs h) : kR h 173 23 = 189 := hr.2.1 173 (by decide) 23 (by decide) (by decide) (by decide)
theorem rf173_24 {h : KH} (hr : kRefs h) : kR h 173 24 = 190 := hr.2.1 173 (by decide) 24 (by decide) (by decide) (by decide)
theorem rf173_25 {h : KH} (hr : kRefs h) : kR h 173 25 = 191 := hr.2.1 173 (by decide) 25 (by decide) (by decide) (by decide)
theorem rf173_26 {h : KH} (hr : kRefs h) : kR h 173 26 = 192 := hr.2.1 173 (by decide) 26 (by decide) (by decide) (by decide)
theorem rf173_27 {h : KH} (hr : kRefs h) : kR h 173 27 = 193 := hr.2.1 173 (by decide) 27 (by decide) (by decide) (by decide)
theorem rf173_28 {h : KH} (hr : kRefs h) : kR h 173 28 = 194 := hr.2.1 173 (by decide) 28 (by decide) (by decide) (by decide)
theorem rf173_29 {h : KH} (hr : kRefs h) : kR h 173 29 = 195 := hr.2.1 173 (by decide) 29 (by decide) (by decide) (by decide)
theorem rf173_30 {h : KH} (hr : kRefs h) : kR h 173 30 = 196 := hr.2.1 173 (by decide) 30 (by decide) (by decide) (by decide)
theorem rf173_31 {h : KH} (hr : kRefs h) : kR h 173 31 = 197 := hr.2.1 173 (by decide) 31 (by decide) (by decide) (by decide)
theorem rf173_33 {h : KH} (hr : kRefs h) : kR h 173 33 = 198 := hr.2.1 173 (by decide) 33 (by decide) (by decide) (by decide)
theorem rf173_34 {h : KH} (hr : kRefs h) : kR h 173 34 = 199 := hr.2.1 173 (by decide) 34 (by decide) (by decide) (by decide)
theorem rf173_35 {h : KH} (hr : kRefs h) : kR h 173 35 = 200 := hr.2.1 173 (by decide) 35 (by decide) (by decide) (by decide)
theorem rf173_36 {h : KH} (hr : kRefs h) : kR h 173 36 = 201 := hr.2.1 173 (by decide) 36 (by decide) (by decide) (by decide)
theorem rf173_37 {h : KH} (hr : kRefs h) : kR h 173 37 = 202 := hr.2.1 173 (by decide) 37 (by decide) (by decide) (by decide)
theorem rf173_38 {h : KH} (hr : kRefs h) : kR h 173 38 = 203 := hr.2.1 173 (by decide) 38 (by decide) (by decide) (by decide)
theorem rf173_39 {h : KH} (hr : kRefs h) : kR h 173 39 = 204 := hr.2.1 173 (by decide) 39 (by decide) (by decide) (by decide)
theorem rf173_40 {h : KH} (hr : kRefs h) : kR h 173 40 = 205 := hr.2.1 173 (by decide) 40 (by decide) (by decide) (by decide)
theorem rf173_41 {h : KH} (hr : kRefs h) : kR h 173 41 = 206 := hr.2.1 173 (by decide) 41 (by decide) (by decide) (by decide)
theorem rf173_45 {h : KH} (hr : kRefs h) : kR h 173 45 = 207 := hr.2.1 173 (by decide) 45 (by decide) (by decide) (by decide)
theorem rf173_46 {h : KH} (hr : kRefs h) : kR h 173 46 = 208 := hr.2.1 173 (by decide) 46 (by decide) (by decide) (by decide)
theorem rf173_50 {h : KH} (hr : kRefs h) : kR h 173 50 = 209 := hr.2.1 173 (by decide) 50 (by decide) (by decide) (by decide)
theorem rf173_51 {h : KH} (hr : kRefs h) : kR h 173 51 = 210 := hr.2.1 173 (by decide) 51 (by decide) (by decide) (by decide)
theorem rf173_52 {h : KH} (hr : kRefs h) : kR h 173 52 = 211 := hr.2.1 173 (by decide) 52 (by decide) (by decide) (by decide)
theorem rf173_53 {h : KH} (hr : kRefs h) : kR h 173 53 = 212 := hr.2.1 173 (by decide) 53 (by decide) (by decide) (by decide)
theorem rf173_54 {h : KH} (hr : kRefs h) : kR h 173 54 = 213 := hr.2.1 173 (by decide) 54 (by decide) (by decide) (by decide)
theorem rf173_55 {h : KH} (hr : kRefs h) : kR h 173 55 = 214 := hr.2.1 173 (by decide) 55 (by decide) (by decide) (by decide)
theorem rf173_57 {h : KH} (hr : kRefs h) : kR h 173 57 = 215 := hr.2.1 173 (by decide) 57 (by decide) (by decide) (by decide)
theorem rf173_59 {h : KH} (hr : kRefs h) : kR h 173 59 = 216 := hr.2.1 173 (by decide) 59 (by decide) (by decide) (by decide)
theorem rf173_60 {h : KH} (hr : kRefs h) : kR h 173 60 = 217 := hr.2.1 173 (by decide) 60 (by decide) (by decide) (by decide)
theorem rf173_64 {h : KH} (hr : kRefs h) : kR h 173 64 = 218 := hr.2.1 173 (by decide) 64 (by decide) (by decide) (by decide)
theorem rf173_65 {h : KH} (hr : kRefs h) : kR h 173 65 = 219 := hr.2.1 173 (by decide) 65 (by decide) (by decide) (by decide)
theorem rf173_66 {h : KH} (hr : kRefs h) : kR h 173 66 = 220 := hr.2.1 173 (by decide) 66 (by decide) (by decide) (by decide)
theorem rf173_67 {h : KH} (hr : kRefs h) : kR h 173 67 = 221 := hr.2.1 173 (by decide) 67 (by decide) (by decide) (by decide)
theorem rf173_68 {h : KH} (hr : kRefs h) : kR h 173 68 = 222 := hr.2.1 173 (by decide) 68 (by decide) (by decide) (by decide)
theorem rf173_69 {h : KH} (hr : kRefs h) : kR h 173 69 = 223 := hr.2.1 173 (by decide) 69 (by decide) (by decide) (by decide)
theorem rf173_70 {h : KH} (hr : kRefs h) : kR h 173 70 = 224 := hr.2.1 173 (by decide) 70 (by decide) (by decide) (by decide)
theorem rf173_71 {h : KH} (hr : kRefs h) : kR h 173 71 = 225 := hr.2.1 173 (by decide) 71 (by decide) (by decide) (by decide)
theorem rf173_72 {h : KH} (hr : kRefs h) : kR h 173 72 = 226 := hr.2.1 173 (by decide) 72 (by decide) (by decide) (by decide)
theorem rf173_73 {h : KH} (hr : kRefs h) : kR h 173 73 = 227 := hr.2.1 173 (by decide) 73 (by decide) (by decide) (by decide)
theorem rf173_74 {h : KH} (hr : kRefs h) : kR h 173 74 = 228 := hr.2.1 173 (by decide) 74 (by decide) (by decide) (by decide)
theorem rf173_75 {h : KH} (hr : kRefs h) : kR h 173 75 = 229 := hr.2.1 173 (by decide) 75 (by decide) (by decide) (by decide)
theorem rf173_76 {h : KH} (hr : kRefs h) : kR h 173 76 = 230 := hr.2.1 173 (by decide) 76 (by decide) (by decide) (by decide)
theorem rf173_77 {h : KH} (hr : kRefs h) : kR h 173 77 = 231 := hr.2.1 173 (by decide) 77 (by decide) (by decide) (by decide)
theorem rf173_78 {h : KH} (hr : kRefs h) : kR h 173 78 = 232 := hr.2.1 173 (by decide) 78 (by decide) (by decide) (by decide)
theorem rf173_79 {h : KH} (hr : kRefs h) : kR h 173 79 = 233 := hr.2.1 173 (by decide) 79 (by decide) (by decide) (by decide)
theorem rf173_80 {h : KH} (hr : kRefs h) : kR h 173 80 = 234 := hr.2.1 173 (by decide) 80 (by decide) (by decide) (by decide)
theorem rf173_81 {h : KH} (hr : kRefs h) : kR h 173 81 = 235 := hr.2.1 173 (by decide) 81 (by decide) (by decide) (by decide)
theorem rf173_82 {h : KH} (hr : kRefs h) : kR h 173 82 = 236 := hr.2.1 173 (by decide) 82 (by decide) (by decide) (by decide)
theorem rf173_83 {h : KH} (hr : kRefs h) : kR h 173 83 = 237 := hr.2.1 173 (by decide) 83 (by decide) (by decide) (by decide)
theorem rf173_84 {h : KH} (hr : kRefs h) : kR h 173 84 = 238 := hr.2.1 173 (by decide) 84 (by decide) (by decide) (by decide)
theorem rf173_85 {h : KH} (hr : kRefs h) : kR h 173 85 = 239 := hr.2.1 173 (by decide) 85 (by decide) (by decide) (by decide)
theorem rf173_87 {h : KH} (hr : kRefs h) : kR h 173 87 = 240 := hr.2.1 173 (by decide) 87 (by decide) (by decide) (by decide)
theorem rf173_91 {h : KH} (hr : kRefs h) : kR h 173 91 = 241 := hr.2.1 173 (by decide) 91 (by decide) (by decide) (by decide)
theorem rf173_95 {h : KH} (hr : kRefs h) : kR h 173 95 = 242 := hr.2.1 173 (by decide) 95 (by decide) (by decide) (by decide)
theorem kRefs.same {h h' : KH} (hr : kRefs h) (h0 : h'.1 = h.1) (h1 : ∀ l i, kR h' l i = kR h l i) : kRefs h' := by
  refine ⟨h0.trans hr.1, fun l hl i hi hn hm => (h1 l i).trans (hr.2.1 l hl i hi hn hm), ?_⟩
  rw [h1, h1, h1]
  exact hr.2.2
theorem kRefs.sI {h : KH} (hr : kRefs h) (l i : Nat) (v : Int32) : kRefs (ksI h l i v) := hr.same rfl fun _ _ => rfl
theorem kRefs.sL {h : KH} (hr : kRefs h) (l i : Nat) (v : Int64) : kRefs (ksL h l i v) := hr.same rfl fun _ _ => rfl
theorem kRefs.fr {W : Nat → Prop} {h h' : KH} (hr : kRefs h) (x : kfr W h h') : kRefs h' := hr.same x.1 x.2.1
theorem krt_in : (List.range 243).all (fun l => decide ((krt.getD l []).length < 100)) = true := by decide +kernel
theorem kRefs_start {h : KH} (hk : khI = some h) : kRefs h := by
  have h1 : h.1 = 243 := by
    have z := khI_size
    rw [hk] at z
    exact Option.some.inj z
  have h2 : ∀ l, l < 243 → ∀ i, i < (krt.getD l []).length → kR h l i = (krt.getD l []).getD i 0 := by
    have z := khI_R
    rw [hk] at z
    have z : ((List.range 243).all fun l => ((List.range (krt.getD l []).length).map fun i => kR h l i) == krt.getD l []) = true := Option.some.inj z
    rw [List.all_eq_true] at z
    intro l hl i hi
    have y := eq_of_beq (z l (List.mem_range.mpr hl))
    have x : ((List.range (krt.getD l []).length).map fun i => kR h l i)[i]? = (krt.getD l [])[i]? := by rw [y]
    rw [List.getElem?_map, List.getElem?_range hi] at x
    rw [List.getD_eq_getElem?_getD, ← x]
    rfl
  exact ⟨h1, fun l hl i hi _ _ => h2 l hl i hi, Or.inl ⟨h2 0 (by decide) 5 (by decide), h2 0 (by decide) 6 (by decide)⟩, Or.inl (h2 10 (by decide) 1 (by decide))⟩
