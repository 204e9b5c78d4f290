/-! THE LAW, CASE BY CASE -/
variable {K : KK}
theorem cmp0 {M2 : mM} {b : Int} (h : M2 96 0 = b) : cmpL (M2 96 (Int.toNat 0)) b = 0 := by
  rw [show M2 96 (Int.toNat 0) = b from h]
  unfold cmpL
  rw [if_neg (Int.lt_irrefl _), if_pos rfl]
theorem law_0 {M : mM} (hI : Inv K M) (d u : Nat) {i : Int} (h : inS K i) (hu : u + 6 ≤ 3400) : nxt K d u i 11 M := by
  have c3 := hI.c3
  have c4 := hI.c4
  obtain ⟨k, b, M1, M2, ⟨e3, e4⟩, hw, hm, ht, ho, hI2⟩ := op0 hI d (K.1 (Int.toNat (i + 1))) (K.1 (Int.toNat (i + 2))) (K.1 (Int.toNat (i + 3))) (K.1 (Int.toNat (i + 4))) (K.1 (Int.toNat (i + 5)))
  rw [c3] at e3
  have e4 : M1 4 0 = K.2 0 := by rw [e4]; exact c4
  refine ⟨M2, u + 1 + 0 + 0, ?_, hI2, ?_⟩
  · unfold lL
    rw [b299_11 (d + 600), ixs h (by decide), c4, if_pos (ixb h (by decide)), c3, b299_12 (d + 600), ixs h (by decide), c4, if_pos (ixb h (by decide)), c3, b299_13 (d + 600), ixs h (by decide), c4, if_pos (ixb h (by decide)), c3, b299_14 (d + 600), ixs h (by decide), c4, if_pos (ixb h (by decide)), c3, b299_15 (d + 600), ixs h (by decide), c4, if_pos (ixb h (by decide)), c3, b299_16 (d + 600), hw, callK_r, psh_s, b299_17 (d + 600), ixs h (by decide), e4, if_pos (ixb h (by decide)), e3, b299_18 (d + 600), ixs h (by decide), e4, if_pos (ixb h (by decide)), e3, b299_19 (d + 600), ixs h (by decide), e4, if_pos (ixb h (by decide)), e3, b299_20 (d + 600), ixs h (by decide), e4, if_pos (ixb h (by decide)), e3, b299_21 (d + 600), ixs h (by decide), e4, if_pos (ixb h (by decide)), e3, b299_22 (d + 600), hm, callK_r, psh_s, b299_23 (d + 600), s67 (d + 599), callK_r, psh_s, b299_24 (d + 600), if_pos (show r67 M2 = k from ht), b299_26 (d + 600)]
    · by_cases hk : k = 0
      · rw [if_pos hk, b299_27 (d + 600), if_pos (by decide), b299_28 (d + 600), if_pos (cmp0 (ho hk)), b299_30 (d + 600)]
      · rw [if_neg hk, b299_30 (d + 600)]
    all_goals omega
  · omega
theorem law_1 {M : mM} (hI : Inv K M) (d u : Nat) {i : Int} (h : inS K i) (hu : u + 6 ≤ 3400) : nxt K d u i 31 M := by
  have c3 := hI.c3
  have c4 := hI.c4
  obtain ⟨k, b, M1, M2, ⟨e3, e4⟩, hw, hm, ht, ho, hI2⟩ := op1 hI d (K.1 (Int.toNat (i + 1)))
  rw [c3] at e3
  have e4 : M1 4 0 = K.2 0 := by rw [e4]; exact c4
  refine ⟨M2, u + 1 + 0 + 0, ?_, hI2, ?_⟩
  · unfold lL
    rw [b299_31 (d + 600), ixs h (by decide), c4, if_pos (ixb h (by decide)), c3, b299_32 (d + 600), hw, callK_r, psh_s, b299_33 (d + 600), ixs h (by decide), e4, if_pos (ixb h (by decide)), e3, b299_34 (d + 600), hm, callK_r, psh_s, b299_35 (d + 600), s67 (d + 599), callK_r, psh_s, b299_36 (d + 600), if_pos (show r67 M2 = k from ht), b299_38 (d + 600)]
    · by_cases hk : k = 0
      · rw [if_pos hk, b299_39 (d + 600), if_pos (by decide), b299_40 (d + 600), if_pos (cmp0 (ho hk)), b299_42 (d + 600)]
      · rw [if_neg hk, b299_42 (d + 600)]
    all_goals omega
  · omega
theorem law_3 {M : mM} (hI : Inv K M) (d u : Nat) {i : Int} (h : inS K i) (hu : u + 6 ≤ 3400) : nxt K d u i 49 M := by
  have c3 := hI.c3
  have c4 := hI.c4
  obtain ⟨k, b, M1, M2, ⟨e3, e4⟩, hw, hm, ht, ho, hI2⟩ := op3 hI d (K.1 (Int.toNat (i + 1))) (K.1 (Int.toNat (i + 2)))
  rw [c3] at e3
  have e4 : M1 4 0 = K.2 0 := by rw [e4]; exact c4
  refine ⟨M2, u + 2 + 0 + 0, ?_, hI2, ?_⟩
  · unfold lL
    rw [b299_49 (d + 600), ixs h (by decide), c4, if_pos (ixb h (by decide)), c3, b299_50 (d + 600), ixs h (by decide), c4, if_pos (ixb h (by decide)), c3, b299_51 (d + 600), hw, callK_r, psh_s, b299_52 (d + 600), ixs h (by decide), e4, if_pos (ixb h (by decide)), e3, b299_53 (d + 600), ixs h (by decide), e4, if_pos (ixb h (by decide)), e3, b299_54 (d + 600), hm, callK_r, psh_s, b299_55 (d + 600), s67 (d + 599), callK_r, psh_s, b299_56 (d + 600), if_pos (show r67 M2 = k from ht), b299_58 (d + 600)]
    · by_cases hk : k = 0
      · rw [if_pos hk, b299_59 (d + 600), if_pos (by decide), b299_60 (d + 600), if_pos (cmp0 (ho hk)), b299_62 (d + 600)]
      · rw [if_neg hk, b299_62 (d + 600)]
    all_goals omega
  · omega
theorem law_5 {M : mM} (hI : Inv K M) (d u : Nat) {i : Int} (h : inS K i) (hu : u + 6 ≤ 3400) : nxt K d u i 75 M := by
  have c3 := hI.c3
  have c4 := hI.c4
  obtain ⟨k, b, M1, M2, ⟨e3, e4⟩, hw, hm, ht, ho, hI2⟩ := op5 hI d (K.1 (Int.toNat (i + 1)))
  rw [c3] at e3
  have e4 : M1 4 0 = K.2 0 := by rw [e4]; exact c4
  refine ⟨M2, u + 1 + 0 + 0, ?_, hI2, ?_⟩
  · unfold lL
    rw [b299_75 (d + 600), ixs h (by decide), c4, if_pos (ixb h (by decide)), c3, b299_76 (d + 600), hw, callK_r, psh_s, b299_77 (d + 600), ixs h (by decide), e4, if_pos (ixb h (by decide)), e3, b299_78 (d + 600), hm, callK_r, psh_s, b299_79 (d + 600), s67 (d + 599), callK_r, psh_s, b299_80 (d + 600), if_pos (show r67 M2 = k from ht), b299_82 (d + 600)]
    · by_cases hk : k = 0
      · rw [if_pos hk, b299_83 (d + 600), if_pos (by decide), b299_84 (d + 600), if_pos (cmp0 (ho hk)), b299_86 (d + 600)]
      · rw [if_neg hk, b299_86 (d + 600)]
    all_goals omega
  · omega
theorem law_6 {M : mM} (hI : Inv K M) (d u : Nat) {i : Int} (h : inS K i) (hu : u + 6 ≤ 3400) : nxt K d u i 87 M := by
  have c3 := hI.c3
  have c4 := hI.c4
  obtain ⟨k, b, M1, M2, ⟨e3, e4⟩, hw, hm, ht, ho, hI2⟩ := op6 hI d (K.1 (Int.toNat (i + 1))) (K.1 (Int.toNat (i + 2))) (K.1 (Int.toNat (i + 3)))
  rw [c3] at e3
  have e4 : M1 4 0 = K.2 0 := by rw [e4]; exact c4
  refine ⟨M2, u + 2 + 0 + 0, ?_, hI2, ?_⟩
  · unfold lL
    rw [b299_87 (d + 600), ixs h (by decide), c4, if_pos (ixb h (by decide)), c3, b299_88 (d + 600), ixs h (by decide), c4, if_pos (ixb h (by decide)), c3, b299_89 (d + 600), ixs h (by decide), c4, if_pos (ixb h (by decide)), c3, b299_90 (d + 600), hw, callK_r, psh_s, b299_91 (d + 600), ixs h (by decide), e4, if_pos (ixb h (by decide)), e3, b299_92 (d + 600), ixs h (by decide), e4, if_pos (ixb h (by decide)), e3, b299_93 (d + 600), ixs h (by decide), e4, if_pos (ixb h (by decide)), e3, b299_94 (d + 600), hm, callK_r, psh_s, b299_95 (d + 600), s67 (d + 599), callK_r, psh_s, b299_96 (d + 600), if_pos (show r67 M2 = k from ht), b299_98 (d + 600)]
    · by_cases hk : k = 0
      · rw [if_pos hk, b299_99 (d + 600), if_pos (by decide), b299_100 (d + 600), if_pos (cmp0 (ho hk)), b299_102 (d + 600)]
      · rw [if_neg hk, b299_102 (d + 600)]
    all_goals omega
  · omega
theorem law_7 {M : mM} (hI : Inv K M) (d u : Nat) {i : Int} (h : inS K i) (hu : u + 6 ≤ 3400) : nxt K d u i 103 M := by
  have c3 := hI.c3
  have c4 := hI.c4
  obtain ⟨k, b, M1, M2, ⟨e3, e4⟩, hw, hm, ht, ho, hI2⟩ := op7 hI d (K.1 (Int.toNat (i + 1))) (K.1 (Int.toNat (i + 2))) (K.1 (Int.toNat (i + 3)))
  rw [c3] at e3
  have e4 : M1 4 0 = K.2 0 := by rw [e4]; exact c4
  refine ⟨M2, u + 1 + 0 + 0, ?_, hI2, ?_⟩
  · unfold lL
    rw [b299_103 (d + 600), ixs h (by decide), c4, if_pos (ixb h (by decide)), c3, b299_104 (d + 600), ixs h (by decide), c4, if_pos (ixb h (by decide)), c3, b299_105 (d + 600), ixs h (by decide), c4, if_pos (ixb h (by decide)), c3, b299_106 (d + 600), hw, callK_r, psh_s, b299_107 (d + 600), ixs h (by decide), e4, if_pos (ixb h (by decide)), e3, b299_108 (d + 600), ixs h (by decide), e4, if_pos (ixb h (by decide)), e3, b299_109 (d + 600), ixs h (by decide), e4, if_pos (ixb h (by decide)), e3, b299_110 (d + 600), hm, callK_r, psh_s, b299_111 (d + 600), s67 (d + 599), callK_r, psh_s, b299_112 (d + 600), if_pos (show r67 M2 = k from ht), b299_114 (d + 600)]
    · by_cases hk : k = 0
      · rw [if_pos hk, b299_115 (d + 600), if_pos (by decide), b299_116 (d + 600), if_pos (cmp0 (ho hk)), b299_118 (d + 600)]
      · rw [if_neg hk, b299_118 (d + 600)]
    all_goals omega
  · omega
theorem law_8 {M : mM} (hI : Inv K M) (d u : Nat) {i : Int} (h : inS K i) (hu : u + 6 ≤ 3400) : nxt K d u i 119 M := by
  have c3 := hI.c3
  have c4 := hI.c4
  obtain ⟨k, b, M1, M2, ⟨e3, e4⟩, hw, hm, ht, ho, hI2⟩ := op8 hI d 
  rw [c3] at e3
  have e4 : M1 4 0 = K.2 0 := by rw [e4]; exact c4
  refine ⟨M2, u + 1 + 0 + 0, ?_, hI2, ?_⟩
  · unfold lL
    rw [b299_119 (d + 600), hw, callK_r, psh_s, b299_120 (d + 600), hm, callK_r, psh_s, b299_121 (d + 600), s67 (d + 599), callK_r, psh_s, b299_122 (d + 600), if_pos (show r67 M2 = k from ht), b299_124 (d + 600)]
    · by_cases hk : k = 0
      · rw [if_pos hk, b299_125 (d + 600), if_pos (by decide), b299_126 (d + 600), if_pos (cmp0 (ho hk)), b299_128 (d + 600)]
      · rw [if_neg hk, b299_128 (d + 600)]
    all_goals omega
  · omega
theorem law_9 {M : mM} (hI : Inv K M) (d u : Nat) {i : Int} (h : inS K i) (hu : u + 6 ≤ 3400) : nxt K d u i 129 M := by
  have c3 := hI.c3
  have c4 := hI.c4
  obtain ⟨k, b, M1, M2, ⟨e3, e4⟩, hw, hm, ht, ho, hI2⟩ := op9 hI d (K.1 (Int.toNat (i + 1))) (K.1 (Int.toNat (i + 2)))
  rw [c3] at e3
  have e4 : M1 4 0 = K.2 0 := by rw [e4]; exact c4
  refine ⟨M2, u + 2 + 0 + 0, ?_, hI2, ?_⟩
  · unfold lL
    rw [b299_129 (d + 600), ixs h (by decide), c4, if_pos (ixb h (by decide)), c3, b299_130 (d + 600), ixs h (by decide), c4, if_pos (ixb h (by decide)), c3, b299_131 (d + 600), hw, callK_r, psh_s, b299_132 (d + 600), ixs h (by decide), e4, if_pos (ixb h (by decide)), e3, b299_133 (d + 600), ixs h (by decide), e4, if_pos (ixb h (by decide)), e3, b299_134 (d + 600), hm, callK_r, psh_s, b299_135 (d + 600), s67 (d + 599), callK_r, psh_s, b299_136 (d + 600), if_pos (show r67 M2 = k from ht), b299_138 (d + 600)]
    · by_cases hk : k = 0
      · rw [if_pos hk, b299_139 (d + 600), if_pos (by decide), b299_140 (d + 600), if_pos (cmp0 (ho hk)), b299_142 (d + 600)]
      · rw [if_neg hk, b299_142 (d + 600)]
    all_goals omega
  · omega
theorem law_10 {M : mM} (hI : Inv K M) (d u : Nat) {i : Int} (h : inS K i) (hu : u + 6 ≤ 3400) : nxt K d u i 143 M := by
  have c3 := hI.c3
  have c4 := hI.c4
  obtain ⟨k, b, M1, M2, ⟨e3, e4⟩, hw, hm, ht, ho, hI2⟩ := op10 hI d (K.1 (Int.toNat (i + 1)))
  rw [c3] at e3
  have e4 : M1 4 0 = K.2 0 := by rw [e4]; exact c4
  refine ⟨M2, u + 1 + 0 + 0, ?_, hI2, ?_⟩
  · unfold lL
    rw [b299_143 (d + 600), ixs h (by decide), c4, if_pos (ixb h (by decide)), c3, b299_144 (d + 600), hw, callK_r, psh_s, b299_145 (d + 600), ixs h (by decide), e4, if_pos (ixb h (by decide)), e3, b299_146 (d + 600), hm, callK_r, psh_s, b299_147 (d + 600), s67 (d + 599), callK_r, psh_s, b299_148 (d + 600), if_pos (show r67 M2 = k from ht), b299_150 (d + 600)]
    · by_cases hk : k = 0
      · rw [if_pos hk, b299_151 (d + 600), if_pos (by decide), b299_152 (d + 600), if_pos (cmp0 (ho hk)), b299_154 (d + 600)]
      · rw [if_neg hk, b299_154 (d + 600)]
    all_goals omega
  · omega
theorem law_11 {M : mM} (hI : Inv K M) (d u : Nat) {i : Int} (h : inS K i) (hu : u + 6 ≤ 3400) : nxt K d u i 155 M := by
  have c3 := hI.c3
  have c4 := hI.c4
  obtain ⟨k, b, M1, M2, ⟨e3, e4⟩, hw, hm, ht, ho, hI2⟩ := op11 hI d (K.1 (Int.toNat (i + 1)))
  rw [c3] at e3
  have e4 : M1 4 0 = K.2 0 := by rw [e4]; exact c4
  refine ⟨M2, u + 1 + 0 + 0, ?_, hI2, ?_⟩
  · unfold lL
    rw [b299_155 (d + 600), ixs h (by decide), c4, if_pos (ixb h (by decide)), c3, b299_156 (d + 600), hw, callK_r, psh_s, b299_157 (d + 600), ixs h (by decide), e4, if_pos (ixb h (by decide)), e3, b299_158 (d + 600), hm, callK_r, psh_s, b299_159 (d + 600), s67 (d + 599), callK_r, psh_s, b299_160 (d + 600), if_pos (show r67 M2 = k from ht), b299_162 (d + 600)]
    · by_cases hk : k = 0
      · rw [if_pos hk, b299_163 (d + 600), if_pos (by decide), b299_164 (d + 600), if_pos (cmp0 (ho hk)), b299_166 (d + 600)]
      · rw [if_neg hk, b299_166 (d + 600)]
    all_goals omega
  · omega
theorem law_13 {M : mM} (hI : Inv K M) (d u : Nat) {i : Int} (h : inS K i) (hu : u + 6 ≤ 3400) : nxt K d u i 171 M := by
  have c3 := hI.c3
  have c4 := hI.c4
  obtain ⟨k, b, M1, M2, ⟨e3, e4⟩, hw, hm, ht, ho, hI2⟩ := op13 hI d (K.1 (Int.toNat (i + 1))) (K.1 (Int.toNat (i + 2)))
  rw [c3] at e3
  have e4 : M1 4 0 = K.2 0 := by rw [e4]; exact c4
  refine ⟨M2, u + 2 + 0 + 0, ?_, hI2, ?_⟩
  · unfold lL
    rw [b299_171 (d + 600), ixs h (by decide), c4, if_pos (ixb h (by decide)), c3, b299_172 (d + 600), ixs h (by decide), c4, if_pos (ixb h (by decide)), c3, b299_173 (d + 600), hw, callK_r, psh_s, b299_174 (d + 600), ixs h (by decide), e4, if_pos (ixb h (by decide)), e3, b299_175 (d + 600), ixs h (by decide), e4, if_pos (ixb h (by decide)), e3, b299_176 (d + 600), hm, callK_r, psh_s, b299_177 (d + 600), s67 (d + 599), callK_r, psh_s, b299_178 (d + 600), if_pos (show r67 M2 = k from ht), b299_180 (d + 600)]
    · by_cases hk : k = 0
      · rw [if_pos hk, b299_181 (d + 600), if_pos (by decide), b299_182 (d + 600), if_pos (cmp0 (ho hk)), b299_184 (d + 600)]
      · rw [if_neg hk, b299_184 (d + 600)]
    all_goals omega
  · omega
theorem law_14 {M : mM} (hI : Inv K M) (d u : Nat) {i : Int} (h : inS K i) (hu : u + 6 ≤ 3400) : nxt K d u i 185 M := by
  have c3 := hI.c3
  have c4 := hI.c4
  obtain ⟨k, b, M1, M2, ⟨e3, e4⟩, hw, hm, ht, ho, hI2⟩ := op14 hI d (K.1 (Int.toNat (i + 1)))
  rw [c3] at e3
  have e4 : M1 4 0 = K.2 0 := by rw [e4]; exact c4
  refine ⟨M2, u + 1 + 0 + 0, ?_, hI2, ?_⟩
  · unfold lL
    rw [b299_185 (d + 600), ixs h (by decide), c4, if_pos (ixb h (by decide)), c3, b299_186 (d + 600), hw, callK_r, psh_s, b299_187 (d + 600), ixs h (by decide), e4, if_pos (ixb h (by decide)), e3, b299_188 (d + 600), hm, callK_r, psh_s, b299_189 (d + 600), s67 (d + 599), callK_r, psh_s, b299_190 (d + 600), if_pos (show r67 M2 = k from ht), b299_192 (d + 600)]
    · by_cases hk : k = 0
      · rw [if_pos hk, b299_193 (d + 600), if_pos (by decide), b299_194 (d + 600), if_pos (cmp0 (ho hk)), b299_196 (d + 600)]
      · rw [if_neg hk, b299_196 (d + 600)]
    all_goals omega
  · omega
theorem law_15 {M : mM} (hI : Inv K M) (d u : Nat) {i : Int} (h : inS K i) (hu : u + 6 ≤ 3400) : nxt K d u i 197 M := by
  have c3 := hI.c3
  have c4 := hI.c4
  obtain ⟨k, b, M1, M2, ⟨e3, e4⟩, hw, hm, ht, ho, hI2⟩ := op15 hI d (K.1 (Int.toNat (i + 1))) (K.1 (Int.toNat (i + 2))) (K.1 (Int.toNat (i + 3)))
  rw [c3] at e3
  have e4 : M1 4 0 = K.2 0 := by rw [e4]; exact c4
  refine ⟨M2, u + 3 + 0 + 0, ?_, hI2, ?_⟩
  · unfold lL
    rw [b299_197 (d + 600), ixs h (by decide), c4, if_pos (ixb h (by decide)), c3, b299_198 (d + 600), ixs h (by decide), c4, if_pos (ixb h (by decide)), c3, b299_199 (d + 600), ixs h (by decide), c4, if_pos (ixb h (by decide)), c3, b299_200 (d + 600), hw, callK_r, psh_s, b299_201 (d + 600), ixs h (by decide), e4, if_pos (ixb h (by decide)), e3, b299_202 (d + 600), ixs h (by decide), e4, if_pos (ixb h (by decide)), e3, b299_203 (d + 600), ixs h (by decide), e4, if_pos (ixb h (by decide)), e3, b299_204 (d + 600), hm, callK_r, psh_s, b299_205 (d + 600), s67 (d + 599), callK_r, psh_s, b299_206 (d + 600), if_pos (show r67 M2 = k from ht), b299_208 (d + 600)]
    · by_cases hk : k = 0
      · rw [if_pos hk, b299_209 (d + 600), if_pos (by decide), b299_210 (d + 600), if_pos (cmp0 (ho hk)), b299_212 (d + 600)]
      · rw [if_neg hk, b299_212 (d + 600)]
    all_goals omega
  · omega
theorem law_16 {M : mM} (hI : Inv K M) (d u : Nat) {i : Int} (h : inS K i) (hu : u + 6 ≤ 3400) : nxt K d u i 213 M := by
  have c3 := hI.c3
  have c4 := hI.c4
  obtain ⟨k, b, M1, M2, ⟨e3, e4⟩, hw, hm, ht, ho, hI2⟩ := op16 hI d (K.1 (Int.toNat (i + 1))) (K.1 (Int.toNat (i + 2)))
  rw [c3] at e3
  have e4 : M1 4 0 = K.2 0 := by rw [e4]; exact c4
  refine ⟨M2, u + 1 + 0 + 0, ?_, hI2, ?_⟩
  · unfold lL
    rw [b299_213 (d + 600), ixs h (by decide), c4, if_pos (ixb h (by decide)), c3, b299_214 (d + 600), ixs h (by decide), c4, if_pos (ixb h (by decide)), c3, b299_215 (d + 600), hw, callK_r, psh_s, b299_216 (d + 600), ixs h (by decide), e4, if_pos (ixb h (by decide)), e3, b299_217 (d + 600), ixs h (by decide), e4, if_pos (ixb h (by decide)), e3, b299_218 (d + 600), hm, callK_r, psh_s, b299_219 (d + 600), s67 (d + 599), callK_r, psh_s, b299_220 (d + 600), if_pos (show r67 M2 = k from ht), b299_222 (d + 600)]
    · by_cases hk : k = 0
      · rw [if_pos hk, b299_223 (d + 600), if_pos (by decide), b299_224 (d + 600), if_pos (cmp0 (ho hk)), b299_226 (d + 600)]
      · rw [if_neg hk, b299_226 (d + 600)]
    all_goals omega
  · omega
theorem law_18 {M : mM} (hI : Inv K M) (d u : Nat) {i : Int} (h : inS K i) (hu : u + 6 ≤ 3400) : nxt K d u i 231 M := by
  have c3 := hI.c3
  have c4 := hI.c4
  obtain ⟨k, b, M1, M2, ⟨e3, e4⟩, hw, hm, ht, ho, hI2⟩ := op18 hI d (K.1 (Int.toNat (i + 1)))
  rw [c3] at e3
  have e4 : M1 4 0 = K.2 0 := by rw [e4]; exact c4
  refine ⟨M2, u + 1 + 0 + 0, ?_, hI2, ?_⟩
  · unfold lL
    rw [b299_231 (d + 600), ixs h (by decide), c4, if_pos (ixb h (by decide)), c3, b299_232 (d + 600), hw, callK_r, psh_s, b299_233 (d + 600), ixs h (by decide), e4, if_pos (ixb h (by decide)), e3, b299_234 (d + 600), hm, callK_r, psh_s, b299_235 (d + 600), s67 (d + 599), callK_r, psh_s, b299_236 (d + 600), if_pos (show r67 M2 = k from ht), b299_238 (d + 600)]
    · by_cases hk : k = 0
      · rw [if_pos hk, b299_239 (d + 600), if_pos (by decide), b299_240 (d + 600), if_pos (cmp0 (ho hk)), b299_242 (d + 600)]
      · rw [if_neg hk, b299_242 (d + 600)]
    all_goals omega
  · omega
theorem law_21 {M : mM} (hI : Inv K M) (d u : Nat) {i : Int} (h : inS K i) (hu : u + 6 ≤ 3400) : nxt K d u i 278 M := by
  have c3 := hI.c3
  have c4 := hI.c4
  obtain ⟨k, b, M1, M2, ⟨e3, e4⟩, hw, hm, ht, ho, hI2⟩ := op21 hI d (K.1 (Int.toNat (i + 1)))
  rw [c3] at e3
  have e4 : M1 4 0 = K.2 0 := by rw [e4]; exact c4
  refine ⟨M2, u + 1 + 0 + 0, ?_, hI2, ?_⟩
  · unfold lL
    rw [b299_278 (d + 600), ixs h (by decide), c4, if_pos (ixb h (by decide)), c3, b299_279 (d + 600), hw, callK_r, psh_s, b299_280 (d + 600), ixs h (by decide), e4, if_pos (ixb h (by decide)), e3, b299_281 (d + 600), hm, callK_r, psh_s, b299_282 (d + 600), s67 (d + 599), callK_r, psh_s, b299_283 (d + 600), if_pos (show r67 M2 = k from ht), b299_285 (d + 600)]
    · by_cases hk : k = 0
      · rw [if_pos hk, b299_286 (d + 600), if_pos (by decide), b299_287 (d + 600), if_pos (cmp0 (ho hk)), b299_289 (d + 600)]
      · rw [if_neg hk, b299_289 (d + 600)]
    all_goals omega
  · omega
theorem law_22 {M : mM} (hI : Inv K M) (d u : Nat) {i : Int} (h : inS K i) (hu : u + 6 ≤ 3400) : nxt K d u i 290 M := by
  have c3 := hI.c3
  have c4 := hI.c4
  obtain ⟨k, b, M1, M2, ⟨e3, e4⟩, hw, hm, ht, ho, hI2⟩ := op22 hI d (K.1 (Int.toNat (i + 1)))
  rw [c3] at e3
  have e4 : M1 4 0 = K.2 0 := by rw [e4]; exact c4
  refine ⟨M2, u + 1 + 0 + 0, ?_, hI2, ?_⟩
  · unfold lL
    rw [b299_290 (d + 600), ixs h (by decide), c4, if_pos (ixb h (by decide)), c3, b299_291 (d + 600), hw, callK_r, psh_s, b299_292 (d + 600), ixs h (by decide), e4, if_pos (ixb h (by decide)), e3, b299_293 (d + 600), hm, callK_r, psh_s, b299_294 (d + 600), s67 (d + 599), callK_r, psh_s, b299_295 (d + 600), if_pos (show r67 M2 = k from ht), b299_297 (d + 600)]
    · by_cases hk : k = 0
      · rw [if_pos hk, b299_298 (d + 600), if_pos (by decide), b299_299 (d + 600), if_pos (cmp0 (ho hk)), b299_301 (d + 600)]
      · rw [if_neg hk, b299_301 (d + 600)]
    all_goals omega
  · omega
theorem law_23 {M : mM} (hI : Inv K M) (d u : Nat) {i : Int} (h : inS K i) (hu : u + 6 ≤ 3400) : nxt K d u i 302 M := by
  have c3 := hI.c3
  have c4 := hI.c4
  obtain ⟨k, b, M1, M2, ⟨e3, e4⟩, hw, hm, ht, ho, hI2⟩ := op23 hI d (K.1 (Int.toNat (i + 1)))
  rw [c3] at e3
  have e4 : M1 4 0 = K.2 0 := by rw [e4]; exact c4
  refine ⟨M2, u + 1 + 0 + 0, ?_, hI2, ?_⟩
  · unfold lL
    rw [b299_302 (d + 600), ixs h (by decide), c4, if_pos (ixb h (by decide)), c3, b299_303 (d + 600), hw, callK_r, psh_s, b299_304 (d + 600), ixs h (by decide), e4, if_pos (ixb h (by decide)), e3, b299_305 (d + 600), hm, callK_r, psh_s, b299_306 (d + 600), s67 (d + 599), callK_r, psh_s, b299_307 (d + 600), if_pos (show r67 M2 = k from ht), b299_309 (d + 600)]
    · by_cases hk : k = 0
      · rw [if_pos hk, b299_310 (d + 600), if_pos (by decide), b299_311 (d + 600), if_pos (cmp0 (ho hk)), b299_313 (d + 600)]
      · rw [if_neg hk, b299_313 (d + 600)]
    all_goals omega
  · omega
theorem law_24 {M : mM} (hI : Inv K M) (d u : Nat) {i : Int} (h : inS K i) (hu : u + 6 ≤ 3400) : nxt K d u i 314 M := by
  have c3 := hI.c3
  have c4 := hI.c4
  obtain ⟨k, b, M1, M2, ⟨e3, e4⟩, hw, hm, ht, ho, hI2⟩ := op24 hI d 
  rw [c3] at e3
  have e4 : M1 4 0 = K.2 0 := by rw [e4]; exact c4
  refine ⟨M2, u + 1 + 0 + 0, ?_, hI2, ?_⟩
  · unfold lL
    rw [b299_314 (d + 600), hw, callK_r, psh_s, b299_315 (d + 600), hm, callK_r, psh_s, b299_316 (d + 600), s67 (d + 599), callK_r, psh_s, b299_317 (d + 600), if_pos (show r67 M2 = k from ht), b299_319 (d + 600)]
    · by_cases hk : k = 0
      · rw [if_pos hk, b299_320 (d + 600), if_pos (by decide), b299_321 (d + 600), if_pos (cmp0 (ho hk)), b299_323 (d + 600)]
      · rw [if_neg hk, b299_323 (d + 600)]
    all_goals omega
  · omega
theorem law_27 {M : mM} (hI : Inv K M) (d u : Nat) {i : Int} (h : inS K i) (hu : u + 6 ≤ 3400) : nxt K d u i 339 M := by
  have c3 := hI.c3
  have c4 := hI.c4
  obtain ⟨k, b, M1, M2, ⟨e3, e4⟩, hw, hm, ht, ho, hI2⟩ := op27 hI d (K.1 (Int.toNat (i + 1)))
  rw [c3] at e3
  have e4 : M1 4 0 = K.2 0 := by rw [e4]; exact c4
  refine ⟨M2, u + 1 + 0 + 0, ?_, hI2, ?_⟩
  · unfold lL
    rw [b299_339 (d + 600), ixs h (by decide), c4, if_pos (ixb h (by decide)), c3, b299_340 (d + 600), hw, callK_r, psh_s, b299_341 (d + 600), ixs h (by decide), e4, if_pos (ixb h (by decide)), e3, b299_342 (d + 600), hm, callK_r, psh_s, b299_343 (d + 600), s67 (d + 599), callK_r, psh_s, b299_344 (d + 600), if_pos (show r67 M2 = k from ht), b299_346 (d + 600)]
    · by_cases hk : k = 0
      · rw [if_pos hk, b299_347 (d + 600), if_pos (by decide), b299_348 (d + 600), if_pos (cmp0 (ho hk)), b299_350 (d + 600)]
      · rw [if_neg hk, b299_350 (d + 600)]
    all_goals omega
  · omega
theorem law_28 {M : mM} (hI : Inv K M) (d u : Nat) {i : Int} (h : inS K i) (hu : u + 6 ≤ 3400) : nxt K d u i 351 M := by
  have c3 := hI.c3
  have c4 := hI.c4
  obtain ⟨k, b, M1, M2, ⟨e3, e4⟩, hw, hm, ht, ho, hI2⟩ := op28 hI d (K.1 (Int.toNat (i + 1)))
  rw [c3] at e3
  have e4 : M1 4 0 = K.2 0 := by rw [e4]; exact c4
  refine ⟨M2, u + 1 + 0 + 0, ?_, hI2, ?_⟩
  · unfold lL
    rw [b299_351 (d + 600), ixs h (by decide), c4, if_pos (ixb h (by decide)), c3, b299_352 (d + 600), hw, callK_r, psh_s, b299_353 (d + 600), ixs h (by decide), e4, if_pos (ixb h (by decide)), e3, b299_354 (d + 600), hm, callK_r, psh_s, b299_355 (d + 600), s67 (d + 599), callK_r, psh_s, b299_356 (d + 600), if_pos (show r67 M2 = k from ht), b299_358 (d + 600)]
    · by_cases hk : k = 0
      · rw [if_pos hk, b299_359 (d + 600), if_pos (by decide), b299_360 (d + 600), if_pos (cmp0 (ho hk)), b299_362 (d + 600)]
      · rw [if_neg hk, b299_362 (d + 600)]
    all_goals omega
  · omega
theorem law_30 {M : mM} (hI : Inv K M) (d u : Nat) {i : Int} (h : inS K i) (hu : u + 6 ≤ 3400) : nxt K d u i 369 M := by
  have c3 := hI.c3
  have c4 := hI.c4
  obtain ⟨k, b, M1, M2, ⟨e3, e4⟩, hw, hm, ht, ho, hI2⟩ := op30 hI d (K.1 (Int.toNat (i + 1))) (K.1 (Int.toNat (i + 2)))
  rw [c3] at e3
  have e4 : M1 4 0 = K.2 0 := by rw [e4]; exact c4
  refine ⟨M2, u + 1 + 0 + 0, ?_, hI2, ?_⟩
  · unfold lL
    rw [b299_369 (d + 600), ixs h (by decide), c4, if_pos (ixb h (by decide)), c3, b299_370 (d + 600), ixs h (by decide), c4, if_pos (ixb h (by decide)), c3, b299_371 (d + 600), hw, callK_r, psh_s, b299_372 (d + 600), ixs h (by decide), e4, if_pos (ixb h (by decide)), e3, b299_373 (d + 600), ixs h (by decide), e4, if_pos (ixb h (by decide)), e3, b299_374 (d + 600), hm, callK_r, psh_s, b299_375 (d + 600), s67 (d + 599), callK_r, psh_s, b299_376 (d + 600), if_pos (show r67 M2 = k from ht), b299_378 (d + 600)]
    · by_cases hk : k = 0
      · rw [if_pos hk, b299_379 (d + 600), if_pos (by decide), b299_380 (d + 600), if_pos (cmp0 (ho hk)), b299_382 (d + 600)]
      · rw [if_neg hk, b299_382 (d + 600)]
    all_goals omega
  · omega
theorem law_33 {M : mM} (hI : Inv K M) (d u : Nat) {i : Int} (h : inS K i) (hu : u + 6 ≤ 3400) : nxt K d u i 401 M := by
  have c3 := hI.c3
  have c4 := hI.c4
  obtain ⟨k, b, M1, M2, ⟨e3, e4⟩, hw, hm, ht, ho, hI2⟩ := op33 hI d (K.1 (Int.toNat (i + 1)))
  rw [c3] at e3
  have e4 : M1 4 0 = K.2 0 := by rw [e4]; exact c4
  refine ⟨M2, u + 1 + 0 + 0, ?_, hI2, ?_⟩
  · unfold lL
    rw [b299_401 (d + 600), ixs h (by decide), c4, if_pos (ixb h (by decide)), c3, b299_402 (d + 600), hw, callK_r, psh_s, b299_403 (d + 600), ixs h (by decide), e4, if_pos (ixb h (by decide)), e3, b299_404 (d + 600), hm, callK_r, psh_s, b299_405 (d + 600), s67 (d + 599), callK_r, psh_s, b299_406 (d + 600), if_pos (show r67 M2 = k from ht), b299_408 (d + 600)]
    · by_cases hk : k = 0
      · rw [if_pos hk, b299_409 (d + 600), if_pos (by decide), b299_410 (d + 600), if_pos (cmp0 (ho hk)), b299_412 (d + 600)]
      · rw [if_neg hk, b299_412 (d + 600)]
    all_goals omega
  · omega
theorem law_37 {M : mM} (hI : Inv K M) (d u : Nat) {i : Int} (h : inS K i) (hu : u + 6 ≤ 3400) : nxt K d u i 437 M := by
  have c3 := hI.c3
  have c4 := hI.c4
  obtain ⟨k, b, M1, M2, ⟨e3, e4⟩, hw, hm, ht, ho, hI2⟩ := op37 hI d (K.1 (Int.toNat (i + 1)))
  rw [c3] at e3
  have e4 : M1 4 0 = K.2 0 := by rw [e4]; exact c4
  refine ⟨M2, u + 1 + 0 + 0, ?_, hI2, ?_⟩
  · unfold lL
    rw [b299_437 (d + 600), ixs h (by decide), c4, if_pos (ixb h (by decide)), c3, b299_438 (d + 600), hw, callK_r, psh_s, b299_439 (d + 600), ixs h (by decide), e4, if_pos (ixb h (by decide)), e3, b299_440 (d + 600), hm, callK_r, psh_s, b299_441 (d + 600), s67 (d + 599), callK_r, psh_s, b299_442 (d + 600), if_pos (show r67 M2 = k from ht), b299_444 (d + 600)]
    · by_cases hk : k = 0
      · rw [if_pos hk, b299_445 (d + 600), if_pos (by decide), b299_446 (d + 600), if_pos (cmp0 (ho hk)), b299_448 (d + 600)]
      · rw [if_neg hk, b299_448 (d + 600)]
    all_goals omega
  · omega
theorem law_39 {M : mM} (hI : Inv K M) (d u : Nat) {i : Int} (h : inS K i) (hu : u + 6 ≤ 3400) : nxt K d u i 462 M := by
  have c3 := hI.c3
  have c4 := hI.c4
  obtain ⟨k, b, M1, M2, ⟨e3, e4⟩, hw, hm, ht, ho, hI2⟩ := op39 hI d 
  rw [c3] at e3
  have e4 : M1 4 0 = K.2 0 := by rw [e4]; exact c4
  refine ⟨M2, u + 2 + 0 + 0, ?_, hI2, ?_⟩
  · unfold lL
    rw [b299_462 (d + 600), hw, callK_r, psh_s, b299_463 (d + 600), hm, callK_r, psh_s, b299_464 (d + 600), s67 (d + 599), callK_r, psh_s, b299_465 (d + 600), if_pos (show r67 M2 = k from ht), b299_467 (d + 600)]
    · by_cases hk : k = 0
      · rw [if_pos hk, b299_468 (d + 600), if_pos (by decide), b299_469 (d + 600), if_pos (cmp0 (ho hk)), b299_471 (d + 600)]
      · rw [if_neg hk, b299_471 (d + 600)]
    all_goals omega
  · omega
theorem law_41 {M : mM} (hI : Inv K M) (d u : Nat) {i : Int} (h : inS K i) (hu : u + 6 ≤ 3400) : nxt K d u i 480 M := by
  have c3 := hI.c3
  have c4 := hI.c4
  obtain ⟨k, b, M1, M2, ⟨e3, e4⟩, hw, hm, ht, ho, hI2⟩ := op41 hI d 
  rw [c3] at e3
  have e4 : M1 4 0 = K.2 0 := by rw [e4]; exact c4
  refine ⟨M2, u + 1 + 0 + 0, ?_, hI2, ?_⟩
  · unfold lL
    rw [b299_480 (d + 600), hw, callK_r, psh_s, b299_481 (d + 600), hm, callK_r, psh_s, b299_482 (d + 600), s67 (d + 599), callK_r, psh_s, b299_483 (d + 600), if_pos (show r67 M2 = k from ht), b299_485 (d + 600)]
    · by_cases hk : k = 0
      · rw [if_pos hk, b299_486 (d + 600), if_pos (by decide), b299_487 (d + 600), if_pos (cmp0 (ho hk)), b299_489 (d + 600)]
      · rw [if_neg hk, b299_489 (d + 600)]
    all_goals omega
  · omega
theorem law_2 {M : mM} (hI : Inv K M) (d u : Nat) {i : Int} (h : inS K i) (hu : u + 6 ≤ 3400) : nxt K d u i 43 M := by
  have c3 := hI.c3
  have c4 := hI.c4
  obtain ⟨b, M1, M2, ⟨e3, e4⟩, hw, hm, hI2⟩ := op2 hI d (K.1 (Int.toNat (i + 1)))
  rw [c3] at e3
  have e4 : M1 4 0 = K.2 0 := by rw [e4]; exact c4
  refine ⟨M2, u + 0 + 0, ?_, hI2, ?_⟩
  · unfold lL
    rw [b299_43 (d + 600), ixs h (by decide), c4, if_pos (ixb h (by decide)), c3, b299_44 (d + 600), hw, callK_r, psh_s, b299_45 (d + 600), ixs h (by decide), e4, if_pos (ixb h (by decide)), e3, b299_46 (d + 600), hm, callK_r, psh_s, b299_47 (d + 600), if_pos rfl]
    all_goals omega
  · omega
theorem law_12 {M : mM} (hI : Inv K M) (d u : Nat) {i : Int} (h : inS K i) (hu : u + 6 ≤ 3400) : nxt K d u i 167 M := by
  have c3 := hI.c3
  have c4 := hI.c4
  obtain ⟨b, M1, M2, ⟨e3, e4⟩, hw, hm, hI2⟩ := op12 hI d 
  rw [c3] at e3
  have e4 : M1 4 0 = K.2 0 := by rw [e4]; exact c4
  refine ⟨M2, u + 0 + 0, ?_, hI2, ?_⟩
  · unfold lL
    rw [b299_167 (d + 600), hw, callK_r, psh_s, b299_168 (d + 600), hm, callK_r, psh_s, b299_169 (d + 600), if_pos rfl]
    all_goals omega
  · omega
theorem law_17 {M : mM} (hI : Inv K M) (d u : Nat) {i : Int} (h : inS K i) (hu : u + 6 ≤ 3400) : nxt K d u i 227 M := by
  have c3 := hI.c3
  have c4 := hI.c4
  obtain ⟨b, M1, M2, ⟨e3, e4⟩, hw, hm, hI2⟩ := op17 hI d 
  rw [c3] at e3
  have e4 : M1 4 0 = K.2 0 := by rw [e4]; exact c4
  refine ⟨M2, u + 0 + 0, ?_, hI2, ?_⟩
  · unfold lL
    rw [b299_227 (d + 600), hw, callK_r, psh_s, b299_228 (d + 600), hm, callK_r, psh_s, b299_229 (d + 600), if_pos rfl]
    all_goals omega
  · omega
theorem law_25 {M : mM} (hI : Inv K M) (d u : Nat) {i : Int} (h : inS K i) (hu : u + 6 ≤ 3400) : nxt K d u i 324 M := by
  have c3 := hI.c3
  have c4 := hI.c4
  obtain ⟨b, M1, M2, ⟨e3, e4⟩, hw, hm, hI2⟩ := op25 hI d (K.1 (Int.toNat (i + 1)))
  rw [c3] at e3
  have e4 : M1 4 0 = K.2 0 := by rw [e4]; exact c4
  refine ⟨M2, u + 0 + 0, ?_, hI2, ?_⟩
  · unfold lL
    rw [b299_324 (d + 600), ixs h (by decide), c4, if_pos (ixb h (by decide)), c3, b299_325 (d + 600), hw, callK_r, psh_s, b299_326 (d + 600), ixs h (by decide), e4, if_pos (ixb h (by decide)), e3, b299_327 (d + 600), hm, callK_r, psh_s, b299_328 (d + 600), if_pos rfl]
    all_goals omega
  · omega
theorem law_29 {M : mM} (hI : Inv K M) (d u : Nat) {i : Int} (h : inS K i) (hu : u + 6 ≤ 3400) : nxt K d u i 363 M := by
  have c3 := hI.c3
  have c4 := hI.c4
  obtain ⟨b, M1, M2, ⟨e3, e4⟩, hw, hm, hI2⟩ := op29 hI d (K.1 (Int.toNat (i + 1)))
  rw [c3] at e3
  have e4 : M1 4 0 = K.2 0 := by rw [e4]; exact c4
  refine ⟨M2, u + 0 + 0, ?_, hI2, ?_⟩
  · unfold lL
    rw [b299_363 (d + 600), ixs h (by decide), c4, if_pos (ixb h (by decide)), c3, b299_364 (d + 600), hw, callK_r, psh_s, b299_365 (d + 600), ixs h (by decide), e4, if_pos (ixb h (by decide)), e3, b299_366 (d + 600), hm, callK_r, psh_s, b299_367 (d + 600), if_pos rfl]
    all_goals omega
  · omega
theorem law_32 {M : mM} (hI : Inv K M) (d u : Nat) {i : Int} (h : inS K i) (hu : u + 6 ≤ 3400) : nxt K d u i 397 M := by
  have c3 := hI.c3
  have c4 := hI.c4
  obtain ⟨b, M1, M2, ⟨e3, e4⟩, hw, hm, hI2⟩ := op32 hI d 
  rw [c3] at e3
  have e4 : M1 4 0 = K.2 0 := by rw [e4]; exact c4
  refine ⟨M2, u + 0 + 0, ?_, hI2, ?_⟩
  · unfold lL
    rw [b299_397 (d + 600), hw, callK_r, psh_s, b299_398 (d + 600), hm, callK_r, psh_s, b299_399 (d + 600), if_pos rfl]
    all_goals omega
  · omega
theorem law_34 {M : mM} (hI : Inv K M) (d u : Nat) {i : Int} (h : inS K i) (hu : u + 6 ≤ 3400) : nxt K d u i 413 M := by
  have c3 := hI.c3
  have c4 := hI.c4
  obtain ⟨b, M1, M2, ⟨e3, e4⟩, hw, hm, hI2⟩ := op34 hI d 
  rw [c3] at e3
  have e4 : M1 4 0 = K.2 0 := by rw [e4]; exact c4
  refine ⟨M2, u + 0 + 0, ?_, hI2, ?_⟩
  · unfold lL
    rw [b299_413 (d + 600), hw, callK_r, psh_s, b299_414 (d + 600), hm, callK_r, psh_s, b299_415 (d + 600), if_pos rfl]
    all_goals omega
  · omega
theorem law_36 {M : mM} (hI : Inv K M) (d u : Nat) {i : Int} (h : inS K i) (hu : u + 6 ≤ 3400) : nxt K d u i 433 M := by
  have c3 := hI.c3
  have c4 := hI.c4
  obtain ⟨b, M1, M2, ⟨e3, e4⟩, hw, hm, hI2⟩ := op36 hI d 
  rw [c3] at e3
  have e4 : M1 4 0 = K.2 0 := by rw [e4]; exact c4
  refine ⟨M2, u + 0 + 0, ?_, hI2, ?_⟩
  · unfold lL
    rw [b299_433 (d + 600), hw, callK_r, psh_s, b299_434 (d + 600), hm, callK_r, psh_s, b299_435 (d + 600), if_pos rfl]
    all_goals omega
  · omega
theorem law_42 {M : mM} (hI : Inv K M) (d u : Nat) {i : Int} (h : inS K i) (hu : u + 6 ≤ 3400) : nxt K d u i 490 M := by
  have c3 := hI.c3
  have c4 := hI.c4
  obtain ⟨b, M1, M2, ⟨e3, e4⟩, hw, hm, hI2⟩ := op42 hI d 
  rw [c3] at e3
  have e4 : M1 4 0 = K.2 0 := by rw [e4]; exact c4
  refine ⟨M2, u + 0 + 0, ?_, hI2, ?_⟩
  · unfold lL
    rw [b299_490 (d + 600), hw, callK_r, psh_s, b299_491 (d + 600), hm, callK_r, psh_s, b299_492 (d + 600), if_pos rfl]
    all_goals omega
  · omega
theorem law_19 {M : mM} (hI : Inv K M) (d u : Nat) {i : Int} (h : inS K i) (hu : u + 6 ≤ 3400) : nxt K d u i 243 M := by
  have c3 := hI.c3
  have c4 := hI.c4
  obtain ⟨k, M1, M2, ⟨e3, e4⟩, hw, hm, ht, hI2⟩ := op19 hI d (K.1 (Int.toNat (i + 1))) (K.1 (Int.toNat (i + 2))) (K.1 (Int.toNat (i + 3)))
  rw [c3] at e3
  have e4 : M1 4 0 = K.2 0 := by rw [e4]; exact c4
  refine ⟨M2, u + 1 + 0 + 0, ?_, hI2, ?_⟩
  · unfold lL
    rw [b299_243 (d + 600), ixs h (by decide), c4, if_pos (ixb h (by decide)), c3, b299_244 (d + 600), ixs h (by decide), c4, if_pos (ixb h (by decide)), c3, b299_245 (d + 600), ixs h (by decide), c4, if_pos (ixb h (by decide)), c3, b299_246 (d + 600), hw, callK_r, psh_s, b299_247 (d + 600), ixs h (by decide), e4, if_pos (ixb h (by decide)), e3, b299_248 (d + 600), ixs h (by decide), e4, if_pos (ixb h (by decide)), e3, b299_249 (d + 600), ixs h (by decide), e4, if_pos (ixb h (by decide)), e3, b299_250 (d + 600), hm, callK_r, psh_n, b299_251 (d + 600), s67 (d + 599), callK_r, psh_s, b299_252 (d + 600), if_pos (show r67 M2 = k from ht), b299_254 (d + 600)]
    all_goals omega
  · omega
theorem law_31 {M : mM} (hI : Inv K M) (d u : Nat) {i : Int} (h : inS K i) (hu : u + 6 ≤ 3400) : nxt K d u i 383 M := by
  have c3 := hI.c3
  have c4 := hI.c4
  obtain ⟨k, M1, M2, ⟨e3, e4⟩, hw, hm, ht, hI2⟩ := op31 hI d (K.1 (Int.toNat (i + 1))) (K.1 (Int.toNat (i + 2))) (K.1 (Int.toNat (i + 3))) (K.1 (Int.toNat (i + 4)))
  rw [c3] at e3
  have e4 : M1 4 0 = K.2 0 := by rw [e4]; exact c4
  refine ⟨M2, u + 1 + 0 + 0, ?_, hI2, ?_⟩
  · unfold lL
    rw [b299_383 (d + 600), ixs h (by decide), c4, if_pos (ixb h (by decide)), c3, b299_384 (d + 600), ixs h (by decide), c4, if_pos (ixb h (by decide)), c3, b299_385 (d + 600), ixs h (by decide), c4, if_pos (ixb h (by decide)), c3, b299_386 (d + 600), ixs h (by decide), c4, if_pos (ixb h (by decide)), c3, b299_387 (d + 600), hw, callK_r, psh_s, b299_388 (d + 600), ixs h (by decide), e4, if_pos (ixb h (by decide)), e3, b299_389 (d + 600), ixs h (by decide), e4, if_pos (ixb h (by decide)), e3, b299_390 (d + 600), ixs h (by decide), e4, if_pos (ixb h (by decide)), e3, b299_391 (d + 600), ixs h (by decide), e4, if_pos (ixb h (by decide)), e3, b299_392 (d + 600), hm, callK_r, psh_n, b299_393 (d + 600), s67 (d + 599), callK_r, psh_s, b299_394 (d + 600), if_pos (show r67 M2 = k from ht), b299_396 (d + 600)]
    all_goals omega
  · omega
theorem law_40 {M : mM} (hI : Inv K M) (d u : Nat) {i : Int} (h : inS K i) (hu : u + 6 ≤ 3400) : nxt K d u i 472 M := by
  have c3 := hI.c3
  have c4 := hI.c4
  obtain ⟨k, M1, M2, ⟨e3, e4⟩, hw, hm, ht, hI2⟩ := op40 hI d (c := K.1 (Int.toNat (i + 1)) % 65536) (by omega)
  rw [c3] at e3
  have e4 : M1 4 0 = K.2 0 := by rw [e4]; exact c4
  refine ⟨M2, u + 1 + 0 + 0, ?_, hI2, ?_⟩
  · unfold lL
    rw [b299_472 (d + 600), ixs h (by decide), c4, if_pos (ixb h (by decide)), c3, b299_473 (d + 600), hw, callK_r, psh_s, b299_474 (d + 600), ixs h (by decide), e4, if_pos (ixb h (by decide)), e3, b299_475 (d + 600), hm, callK_r, psh_n, b299_476 (d + 600), s67 (d + 599), callK_r, psh_s, b299_477 (d + 600), if_pos (show r67 M2 = k from ht), b299_479 (d + 600)]
    all_goals omega
  · omega
theorem law_44 {M : mM} (hI : Inv K M) (d u : Nat) {i : Int} (h : inS K i) (hu : u + 6 ≤ 3400) : nxt K d u i 497 M := by
  have c3 := hI.c3
  have c4 := hI.c4
  obtain ⟨k, M1, M2, ⟨e3, e4⟩, hw, hm, ht, hI2⟩ := op44 hI d 
  rw [c3] at e3
  have e4 : M1 4 0 = K.2 0 := by rw [e4]; exact c4
  refine ⟨M2, u + 1 + 0 + 0, ?_, hI2, ?_⟩
  · unfold lL
    rw [b299_497 (d + 600), hw, callK_r, psh_s, b299_498 (d + 600), hm, callK_r, psh_n, b299_499 (d + 600), s67 (d + 599), callK_r, psh_s, b299_500 (d + 600), if_pos (show r67 M2 = k from ht), b299_502 (d + 600)]
    all_goals omega
  · omega
theorem law_43 {M : mM} (hI : Inv K M) (d u : Nat) {i : Int} (h : inS K i) (hu : u + 6 ≤ 3400) : nxt K d u i 494 M := by
  obtain ⟨M1, M2, ⟨e3, e4⟩, hw, hm, hI2⟩ := op43 hI d
  refine ⟨M2, u + 0 + 0, ?_, hI2, ?_⟩
  · unfold lL
    rw [b299_494 (d + 600), hw, callK_r, psh_n, b299_495 (d + 600), hm, callK_r, psh_n, b299_496 (d + 600)]
    all_goals omega
  · omega
theorem law_df {M : mM} (hI : Inv K M) (d u : Nat) {i : Int} : nxt K d u i 503 M := ⟨M, u, rfl, hI, by omega⟩
