/-! ===== the beginning ===== -/
def mStart : Mo (Option Nat × Option Nat × Option Nat) := mBd (mNew 8) (fun r1 => mBd (mCk 8 r1 (f_X10_init r1)) (fun _ => mBd (mNew 11) (fun r2 => mBd (mCk 11 r2 (f_X13_init r2)) (fun _ => mBd (mNewA 2 (1 : Int32)) (fun r3 => mRt (r1, r2, r3))))))
def run0 : Option ((Option Nat × Option Nat × Option Nat) × Hp) := mStart h00
def h1 : Hp := (run0.map (fun q => q.2)).getD h00
theorem run0_r : run0.map (fun q => q.1) = some (some 64, some 224, some 235) := by decide +kernel
theorem h1_len : h1.1.length = 236 := by decide +kernel
theorem h1_sz : hsz h1 ≤ hsz h00 + 30000 := by decide +kernel
theorem h1_K : kk h1.1 64 = (0, 8) ∧ kk h1.1 235 = (2, 1) ∧ (kk h1.1 168 = (2, 10) ∧ kk h1.1 169 = (2, 10) ∧ kk h1.1 170 = (2, 10) ∧ kk h1.1 171 = (2, 10)) := by decide +kernel
theorem h1_SK : SK h1.1 := by unfold SK; decide +kernel
theorem h1_MS : MS h1.1 h1.2.2.2 224 := by unfold MS; decide +kernel
theorem h1_CBSF : ∀ i, i < 4 → h1.2.2.2 (172 + 1) i = some (172 + 16 + 4 * i) ∧ FS h1.1 h1.2.2.2 (172 + 16 + 4 * i) := by unfold FS; decide +kernel
theorem h1_CBSE : ∀ i, i < 4 → h1.2.2.2 (172 + 2) i = some (172 + 32 + 5 * i) ∧ ES h1.1 h1.2.2.2 (172 + 32 + 5 * i) := by unfold ES; decide +kernel
theorem h1_CBS : CBS h1.1 h1.2.2.2 172 := ⟨by decide +kernel, by decide +kernel, by decide +kernel, by decide +kernel, h1_CBSF, h1_CBSE⟩
theorem h1_CBSbF : ∀ i, i < 4 → h1.2.2.2 (104 + 1) i = some (104 + 16 + 4 * i) ∧ FS h1.1 h1.2.2.2 (104 + 16 + 4 * i) := by unfold FS; decide +kernel
theorem h1_CBSbE : ∀ i, i < 4 → h1.2.2.2 (104 + 2) i = some (104 + 32 + 5 * i) ∧ ES h1.1 h1.2.2.2 (104 + 32 + 5 * i) := by unfold ES; decide +kernel
theorem h1_CBSb : CBS h1.1 h1.2.2.2 104 := ⟨by decide +kernel, by decide +kernel, by decide +kernel, by decide +kernel, h1_CBSbF, h1_CBSbE⟩
theorem h1_TS : TS h1.1 h1.2.2.2 := by unfold TS; decide +kernel
theorem h1_DS : RS h1.1 h1.2.2.2 72 ∧ DS h1.1 h1.2.2.2 74 ∧ DS h1.1 h1.2.2.2 84 ∧ DS h1.1 h1.2.2.2 94 := by unfold RS DS; decide +kernel
theorem h1_PS : PS h1.1 h1.2.2.2 (276 - 172) := ⟨by decide +kernel, by decide +kernel, h1_TS, h1_DS.1, h1_DS.2.1, h1_DS.2.2.1, h1_DS.2.2.2, h1_CBSb⟩
theorem h1_64 : h1.2.2.2 64 0 = some 65 ∧ h1.2.2.2 64 1 = some 160 ∧ h1.2.2.2 64 2 = some 162 ∧ h1.2.2.2 64 3 = some 165 ∧ h1.2.2.2 64 4 = some 168 ∧ h1.2.2.2 64 5 = some 169 ∧ h1.2.2.2 64 6 = some 170 ∧ h1.2.2.2 64 7 = some 171 ∧ h1.2.2.2 64 8 = some 172 := by decide +kernel
theorem h1_RG : RS h1.1 h1.2.2.2 160 ∧ GS h1.1 h1.2.2.2 162 ∧ SS h1.1 h1.2.2.2 165 := by unfold RS GS SS; decide +kernel
theorem h1_CSh : CSh h1.1 h1.2.2.2 172 := ⟨Or.inr rfl, h1_K.1, h1_64, h1_RG.1, h1_RG.2.1, h1_RG.2.2, h1_K.2.2, h1_CBS, h1_PS, h1_K.2.1⟩
theorem h1_I : (h1.2.1 172 7 = 0 ∧ h1.2.1 172 8 = 0 ∧ h1.2.1 172 9 = 0) ∧ (h1.2.1 162 2 = 0 ∧ h1.2.1 162 3 = 0 ∧ h1.2.1 162 4 = 0 ∧ h1.2.1 162 5 = 0) ∧ (h1.2.1 224 28 = 0 ∧ h1.2.1 224 29 = 0 ∧ h1.2.1 224 30 = 0) ∧ (h1.2.1 66 5 = 0 ∧ h1.2.1 224 8 = 0) ∧ (h1.2.1 64 9 = 0 ∧ h1.2.1 224 15 = 0 ∧ h1.2.1 64 10 = -1) ∧ (h1.2.1 64 11 = 0 ∧ h1.2.1 224 1 = 0 ∧ h1.2.1 224 2 = -1) ∧ h1.2.2.2 224 3 = none := by decide +kernel
theorem h1_J : (∀ j, j < 41 → h1.2.2.1 163 j = 0) ∧ (∀ j, j < 49 → h1.2.2.1 231 j = 0) ∧ ∀ i, i < 13 → h1.2.2.1 68 i = kwC i := by decide +kernel
