/-! cells: written by wip/whole/gen/gen.py -/
def fl_reader : List (Option Nat) := [some 109, none, none, none, none, some 110, none, none, none, none, none, none, none, none, some 111, none, none]
theorem okc_108 {g : GT} (h : okAll g) : okO g 108 3 fl_reader := ⟨h _ (by decide), rfl⟩
theorem okc_109 {g : GT} (h : okAll g) : okA g 109 0 400 := ⟨h _ (by decide), rfl⟩
theorem okc_110 {g : GT} (h : okAll g) : okA g 110 0 400 := ⟨h _ (by decide), rfl⟩
theorem okc_111 {g : GT} (h : okAll g) : okA g 111 0 400 := ⟨h _ (by decide), rfl⟩
def fl_counsel : List (Option Nat) := [none, none, none, none, none, none, some 113, some 114, none, none, none, none]
theorem okc_112 {g : GT} (h : okAll g) : okO g 112 0 fl_counsel := ⟨h _ (by decide), rfl⟩
theorem okc_113 {g : GT} (h : okAll g) : okR g 113 4 6 115 := ⟨h _ (by decide), rfl⟩
theorem okr_113 {g : GT} (h : okAll g) {i : Nat} (hi : i < 6) : okA g (115 + i) 0 64 := ⟨h _ (by omega), match i, hi with | 0, _ => rfl | 1, _ => rfl | 2, _ => rfl | 3, _ => rfl | 4, _ => rfl | 5, _ => rfl⟩
theorem okc_114 {g : GT} (h : okAll g) : okR g 114 4 6 121 := ⟨h _ (by decide), rfl⟩
theorem okr_114 {g : GT} (h : okAll g) {i : Nat} (hi : i < 6) : okA g (121 + i) 0 16 := ⟨h _ (by omega), match i, hi with | 0, _ => rfl | 1, _ => rfl | 2, _ => rfl | 3, _ => rfl | 4, _ => rfl | 5, _ => rfl⟩
def fl_duel : List (Option Nat) := [some 128, some 129, some 130, some 131, some 132, some 133, none, none]
theorem okc_127 {g : GT} (h : okAll g) : okO g 127 1 fl_duel := ⟨h _ (by decide), rfl⟩
theorem okc_128 {g : GT} (h : okAll g) : okA g 128 1 61 := ⟨h _ (by decide), rfl⟩
theorem okc_129 {g : GT} (h : okAll g) : okA g 129 0 61 := ⟨h _ (by decide), rfl⟩
theorem okc_130 {g : GT} (h : okAll g) : okA g 130 1 61 := ⟨h _ (by decide), rfl⟩
theorem okc_131 {g : GT} (h : okAll g) : okR g 131 4 3 134 := ⟨h _ (by decide), rfl⟩
theorem okr_131 {g : GT} (h : okAll g) {i : Nat} (hi : i < 3) : okA g (134 + i) 0 61 := ⟨h _ (by omega), match i, hi with | 0, _ => rfl | 1, _ => rfl | 2, _ => rfl⟩
theorem okc_132 {g : GT} (h : okAll g) : okR g 132 4 3 137 := ⟨h _ (by decide), rfl⟩
theorem okr_132 {g : GT} (h : okAll g) {i : Nat} (hi : i < 3) : okA g (137 + i) 0 61 := ⟨h _ (by omega), match i, hi with | 0, _ => rfl | 1, _ => rfl | 2, _ => rfl⟩
theorem okc_133 {g : GT} (h : okAll g) : okR g 133 4 3 140 := ⟨h _ (by decide), rfl⟩
theorem okr_133 {g : GT} (h : okAll g) {i : Nat} (hi : i < 3) : okA g (140 + i) 0 61 := ⟨h _ (by omega), match i, hi with | 0, _ => rfl | 1, _ => rfl | 2, _ => rfl⟩
def fl_fan : List (Option Nat) := [some 0, some 36, some 72, some 108, some 112, some 127, some 144, none, none, none, none]
theorem okc_143 {g : GT} (h : okAll g) : okO g 143 5 fl_fan := ⟨h _ (by decide), rfl⟩
theorem okc_144 {g : GT} (h : okAll g) : okA g 144 0 400 := ⟨h _ (by decide), rfl⟩
def fl_model : List (Option Nat) := [none, none, none, none, none, some 146, some 147, some 148, some 149, some 150, some 151, some 152, some 153, some 154, some 155, some 156, some 157, some 158, some 159, some 160, none, none, none, none, none, some 161, some 162, some 163, some 164, some 165, some 166, some 167, none, none, some 168, none, none, none, none, none, some 169, some 170, some 171, some 172, some 173, some 174, some 175, some 176, none, none, some 177, none, some 178, some 179, none]
theorem okc_145 {g : GT} (h : okAll g) : okO g 145 6 fl_model := ⟨h _ (by decide), rfl⟩
theorem okc_146 {g : GT} (h : okAll g) : okA g 146 0 10 := ⟨h _ (by decide), rfl⟩
theorem okc_147 {g : GT} (h : okAll g) : okA g 147 0 10 := ⟨h _ (by decide), rfl⟩
theorem okc_148 {g : GT} (h : okAll g) : okA g 148 0 10 := ⟨h _ (by decide), rfl⟩
theorem okc_149 {g : GT} (h : okAll g) : okA g 149 0 10 := ⟨h _ (by decide), rfl⟩
theorem okc_150 {g : GT} (h : okAll g) : okA g 150 0 10 := ⟨h _ (by decide), rfl⟩
theorem okc_151 {g : GT} (h : okAll g) : okA g 151 0 10 := ⟨h _ (by decide), rfl⟩
theorem okc_152 {g : GT} (h : okAll g) : okA g 152 0 10 := ⟨h _ (by decide), rfl⟩
theorem okc_153 {g : GT} (h : okAll g) : okA g 153 0 10 := ⟨h _ (by decide), rfl⟩
theorem okc_154 {g : GT} (h : okAll g) : okA g 154 0 10 := ⟨h _ (by decide), rfl⟩
theorem okc_155 {g : GT} (h : okAll g) : okA g 155 0 10 := ⟨h _ (by decide), rfl⟩
theorem okc_156 {g : GT} (h : okAll g) : okA g 156 0 10 := ⟨h _ (by decide), rfl⟩
theorem okc_157 {g : GT} (h : okAll g) : okA g 157 0 10 := ⟨h _ (by decide), rfl⟩
theorem okc_158 {g : GT} (h : okAll g) : okA g 158 0 10 := ⟨h _ (by decide), rfl⟩
theorem okc_159 {g : GT} (h : okAll g) : okA g 159 0 10 := ⟨h _ (by decide), rfl⟩
theorem okc_160 {g : GT} (h : okAll g) : okA g 160 0 400 := ⟨h _ (by decide), rfl⟩
theorem okc_161 {g : GT} (h : okAll g) : okA g 161 0 99 := ⟨h _ (by decide), rfl⟩
theorem okc_162 {g : GT} (h : okAll g) : okA g 162 0 5 := ⟨h _ (by decide), rfl⟩
theorem okc_163 {g : GT} (h : okAll g) : okA g 163 0 80 := ⟨h _ (by decide), rfl⟩
theorem okc_164 {g : GT} (h : okAll g) : okA g 164 0 80 := ⟨h _ (by decide), rfl⟩
theorem okc_165 {g : GT} (h : okAll g) : okA g 165 0 80 := ⟨h _ (by decide), rfl⟩
theorem okc_166 {g : GT} (h : okAll g) : okA g 166 0 2000 := ⟨h _ (by decide), rfl⟩
theorem okc_167 {g : GT} (h : okAll g) : okA g 167 0 2000 := ⟨h _ (by decide), rfl⟩
theorem okc_168 {g : GT} (h : okAll g) : okA g 168 0 40 := ⟨h _ (by decide), rfl⟩
theorem okc_169 {g : GT} (h : okAll g) : okA g 169 0 15 := ⟨h _ (by decide), rfl⟩
theorem okc_170 {g : GT} (h : okAll g) : okA g 170 0 420 := ⟨h _ (by decide), rfl⟩
theorem okc_171 {g : GT} (h : okAll g) : okA g 171 0 10 := ⟨h _ (by decide), rfl⟩
theorem okc_172 {g : GT} (h : okAll g) : okA g 172 2 10 := ⟨h _ (by decide), rfl⟩
theorem okc_173 {g : GT} (h : okAll g) : okA g 173 0 10 := ⟨h _ (by decide), rfl⟩
theorem okc_174 {g : GT} (h : okAll g) : okA g 174 1 61 := ⟨h _ (by decide), rfl⟩
theorem okc_175 {g : GT} (h : okAll g) : okA g 175 1 61 := ⟨h _ (by decide), rfl⟩
theorem okc_176 {g : GT} (h : okAll g) : okA g 176 0 61 := ⟨h _ (by decide), rfl⟩
theorem okc_177 {g : GT} (h : okAll g) : okA g 177 0 160 := ⟨h _ (by decide), rfl⟩
theorem okc_178 {g : GT} (h : okAll g) : okA g 178 0 160 := ⟨h _ (by decide), rfl⟩
theorem okc_179 {g : GT} (h : okAll g) : okA g 179 0 3400 := ⟨h _ (by decide), rfl⟩
