/-! ===== all methods ===== -/
def pm_al : Nat → List ma_M → Prop
  | _, [] => True
  | k, q :: r => pm_gd k q ∧ pm_al (k + 1) r
theorem pm_al_get : ∀ (l : List ma_M) (k m : Nat) (q : ma_M), pm_al k l → l[m]? = some q → pm_gd (k + m) q
  | [], _, _, _, _, h => by cases h
  | a :: l, k, 0, q, h, hq => by cases hq; exact h.1
  | a :: l, k, m + 1, q, h, hq => by
    have := pm_al_get l (k + 1) m q h.2 hq
    rw [show k + (m + 1) = k + 1 + m by omega]
    exact this
theorem pm_ala {k : Nat} {q : ma_M} {r : List ma_M} (h : pm_gd k q) (h2 : pm_al (k + 1) r) : pm_al k (q :: r) := ⟨h, h2⟩
def pm_l288 : List ma_M := pm_q288 :: pm_q289 :: pm_q290 :: pm_q291 :: pm_q292 :: pm_q293 :: pm_q294 :: pm_q295 :: pm_q296 :: []
theorem pm_t288 : pm_al 288 pm_l288 := ⟨pm_g288, ⟨pm_g289, ⟨pm_g290, ⟨pm_g291, ⟨pm_g292, ⟨pm_g293, ⟨pm_g294, ⟨pm_g295, ⟨pm_g296, trivial⟩⟩⟩⟩⟩⟩⟩⟩⟩
def pm_l272 : List ma_M := pm_q272 :: pm_q273 :: pm_q274 :: pm_q275 :: pm_q276 :: pm_q277 :: pm_q278 :: pm_q279 :: pm_q280 :: pm_q281 :: pm_q282 :: pm_q283 :: pm_q284 :: pm_q285 :: pm_q286 :: pm_q287 :: pm_l288
theorem pm_t272 : pm_al 272 pm_l272 := ⟨pm_g272, ⟨pm_g273, ⟨pm_g274, ⟨pm_g275, ⟨pm_g276, ⟨pm_g277, ⟨pm_g278, ⟨pm_g279, ⟨pm_g280, ⟨pm_g281, ⟨pm_g282, ⟨pm_g283, ⟨pm_g284, ⟨pm_g285, ⟨pm_g286, ⟨pm_g287, pm_t288⟩⟩⟩⟩⟩⟩⟩⟩⟩⟩⟩⟩⟩⟩⟩⟩
def pm_l256 : List ma_M := pm_q256 :: pm_q257 :: pm_q258 :: pm_q259 :: pm_q260 :: pm_q261 :: pm_q262 :: pm_q263 :: pm_q264 :: pm_q265 :: pm_q266 :: pm_q267 :: pm_q268 :: pm_q269 :: pm_q270 :: pm_q271 :: pm_l272
theorem pm_t256 : pm_al 256 pm_l256 := ⟨pm_g256, ⟨pm_g257, ⟨pm_g258, ⟨pm_g259, ⟨pm_g260, ⟨pm_g261, ⟨pm_g262, ⟨pm_g263, ⟨pm_g264, ⟨pm_g265, ⟨pm_g266, ⟨pm_g267, ⟨pm_g268, ⟨pm_g269, ⟨pm_g270, ⟨pm_g271, pm_t272⟩⟩⟩⟩⟩⟩⟩⟩⟩⟩⟩⟩⟩⟩⟩⟩
def pm_l240 : List ma_M := pm_q240 :: pm_q241 :: pm_q242 :: pm_q243 :: pm_q244 :: pm_q245 :: pm_q246 :: pm_q247 :: pm_q248 :: pm_q249 :: pm_q250 :: pm_q251 :: pm_q252 :: pm_q253 :: pm_q254 :: pm_q255 :: pm_l256
theorem pm_t240 : pm_al 240 pm_l240 := ⟨pm_g240, ⟨pm_g241, ⟨pm_g242, ⟨pm_g243, ⟨pm_g244, ⟨pm_g245, ⟨pm_g246, ⟨pm_g247, ⟨pm_g248, ⟨pm_g249, ⟨pm_g250, ⟨pm_g251, ⟨pm_g252, ⟨pm_g253, ⟨pm_g254, ⟨pm_g255, pm_t256⟩⟩⟩⟩⟩⟩⟩⟩⟩⟩⟩⟩⟩⟩⟩⟩
def pm_l224 : List ma_M := pm_q224 :: pm_q225 :: pm_q226 :: pm_q227 :: pm_q228 :: pm_q229 :: pm_q230 :: pm_q231 :: pm_q232 :: pm_q233 :: pm_q234 :: pm_q235 :: pm_q236 :: pm_q237 :: pm_q238 :: pm_q239 :: pm_l240
theorem pm_t224 : pm_al 224 pm_l224 := ⟨pm_g224, ⟨pm_g225, ⟨pm_g226, ⟨pm_g227, ⟨pm_g228, ⟨pm_g229, ⟨pm_g230, ⟨pm_g231, ⟨pm_g232, ⟨pm_g233, ⟨pm_g234, ⟨pm_g235, ⟨pm_g236, ⟨pm_g237, ⟨pm_g238, ⟨pm_g239, pm_t240⟩⟩⟩⟩⟩⟩⟩⟩⟩⟩⟩⟩⟩⟩⟩⟩
def pm_l208 : List ma_M := pm_q208 :: pm_q209 :: pm_q210 :: pm_q211 :: pm_q212 :: pm_q213 :: pm_q214 :: pm_q215 :: pm_q216 :: pm_q217 :: pm_q218 :: pm_q219 :: pm_q220 :: pm_q221 :: pm_q222 :: pm_q223 :: pm_l224
theorem pm_t208 : pm_al 208 pm_l208 := ⟨pm_g208, ⟨pm_g209, ⟨pm_g210, ⟨pm_g211, ⟨pm_g212, ⟨pm_g213, ⟨pm_g214, ⟨pm_g215, ⟨pm_g216, ⟨pm_g217, ⟨pm_g218, ⟨pm_g219, ⟨pm_g220, ⟨pm_g221, ⟨pm_g222, ⟨pm_g223, pm_t224⟩⟩⟩⟩⟩⟩⟩⟩⟩⟩⟩⟩⟩⟩⟩⟩
def pm_l192 : List ma_M := pm_q192 :: pm_q193 :: pm_q194 :: pm_q195 :: pm_q196 :: pm_q197 :: pm_q198 :: pm_q199 :: pm_q200 :: pm_q201 :: pm_q202 :: pm_q203 :: pm_q204 :: pm_q205 :: pm_q206 :: pm_q207 :: pm_l208
theorem pm_t192 : pm_al 192 pm_l192 := ⟨pm_g192, ⟨pm_g193, ⟨pm_g194, ⟨pm_g195, ⟨pm_g196, ⟨pm_g197, ⟨pm_g198, ⟨pm_g199, ⟨pm_g200, ⟨pm_g201, ⟨pm_g202, ⟨pm_g203, ⟨pm_g204, ⟨pm_g205, ⟨pm_g206, ⟨pm_g207, pm_t208⟩⟩⟩⟩⟩⟩⟩⟩⟩⟩⟩⟩⟩⟩⟩⟩
def pm_l176 : List ma_M := pm_q176 :: pm_q177 :: pm_q178 :: pm_q179 :: pm_q180 :: pm_q181 :: pm_q182 :: pm_q183 :: pm_q184 :: pm_q185 :: pm_q186 :: pm_q187 :: pm_q188 :: pm_q189 :: pm_q190 :: pm_q191 :: pm_l192
theorem pm_t176 : pm_al 176 pm_l176 := ⟨pm_g176, ⟨pm_g177, ⟨pm_g178, ⟨pm_g179, ⟨pm_g180, ⟨pm_g181, ⟨pm_g182, ⟨pm_g183, ⟨pm_g184, ⟨pm_g185, ⟨pm_g186, ⟨pm_g187, ⟨pm_g188, ⟨pm_g189, ⟨pm_g190, ⟨pm_g191, pm_t192⟩⟩⟩⟩⟩⟩⟩⟩⟩⟩⟩⟩⟩⟩⟩⟩
def pm_l160 : List ma_M := pm_q160 :: pm_q161 :: pm_q162 :: pm_q163 :: pm_q164 :: pm_q165 :: pm_q166 :: pm_q167 :: pm_q168 :: pm_q169 :: pm_q170 :: pm_q171 :: pm_q172 :: pm_q173 :: pm_q174 :: pm_q175 :: pm_l176
theorem pm_t160 : pm_al 160 pm_l160 := ⟨pm_g160, ⟨pm_g161, ⟨pm_g162, ⟨pm_g163, ⟨pm_g164, ⟨pm_g165, ⟨pm_g166, ⟨pm_g167, ⟨pm_g168, ⟨pm_g169, ⟨pm_g170, ⟨pm_g171, ⟨pm_g172, ⟨pm_g173, ⟨pm_g174, ⟨pm_g175, pm_t176⟩⟩⟩⟩⟩⟩⟩⟩⟩⟩⟩⟩⟩⟩⟩⟩
def pm_l144 : List ma_M := pm_q144 :: pm_q145 :: pm_q146 :: pm_q147 :: pm_q148 :: pm_q149 :: pm_q150 :: pm_q151 :: pm_q152 :: pm_q153 :: pm_q154 :: pm_q155 :: pm_q156 :: pm_q157 :: pm_q158 :: pm_q159 :: pm_l160
theorem pm_t144 : pm_al 144 pm_l144 := ⟨pm_g144, ⟨pm_g145, ⟨pm_g146, ⟨pm_g147, ⟨pm_g148, ⟨pm_g149, ⟨pm_g150, ⟨pm_g151, ⟨pm_g152, ⟨pm_g153, ⟨pm_g154, ⟨pm_g155, ⟨pm_g156, ⟨pm_g157, ⟨pm_g158, ⟨pm_g159, pm_t160⟩⟩⟩⟩⟩⟩⟩⟩⟩⟩⟩⟩⟩⟩⟩⟩
def pm_l128 : List ma_M := pm_q128 :: pm_q129 :: pm_q130 :: pm_q131 :: pm_q132 :: pm_q133 :: pm_q134 :: pm_q135 :: pm_q136 :: pm_q137 :: pm_q138 :: pm_q139 :: pm_q140 :: pm_q141 :: pm_q142 :: pm_q143 :: pm_l144
theorem pm_t128 : pm_al 128 pm_l128 := ⟨pm_g128, ⟨pm_g129, ⟨pm_g130, ⟨pm_g131, ⟨pm_g132, ⟨pm_g133, ⟨pm_g134, ⟨pm_g135, ⟨pm_g136, ⟨pm_g137, ⟨pm_g138, ⟨pm_g139, ⟨pm_g140, ⟨pm_g141, ⟨pm_g142, ⟨pm_g143, pm_t144⟩⟩⟩⟩⟩⟩⟩⟩⟩⟩⟩⟩⟩⟩⟩⟩
def pm_l112 : List ma_M := pm_q112 :: pm_q113 :: pm_q114 :: pm_q115 :: pm_q116 :: pm_q117 :: pm_q118 :: pm_q119 :: pm_q120 :: pm_q121 :: pm_q122 :: pm_q123 :: pm_q124 :: pm_q125 :: pm_q126 :: pm_q127 :: pm_l128
theorem pm_t112 : pm_al 112 pm_l112 := ⟨pm_g112, ⟨pm_g113, ⟨pm_g114, ⟨pm_g115, ⟨pm_g116, ⟨pm_g117, ⟨pm_g118, ⟨pm_g119, ⟨pm_g120, ⟨pm_g121, ⟨pm_g122, ⟨pm_g123, ⟨pm_g124, ⟨pm_g125, ⟨pm_g126, ⟨pm_g127, pm_t128⟩⟩⟩⟩⟩⟩⟩⟩⟩⟩⟩⟩⟩⟩⟩⟩
def pm_l96 : List ma_M := pm_q96 :: pm_q97 :: pm_q98 :: pm_q99 :: pm_q100 :: pm_q101 :: pm_q102 :: pm_q103 :: pm_q104 :: pm_q105 :: pm_q106 :: pm_q107 :: pm_q108 :: pm_q109 :: pm_q110 :: pm_q111 :: pm_l112
theorem pm_t96 : pm_al 96 pm_l96 := ⟨pm_g96, ⟨pm_g97, ⟨pm_g98, ⟨pm_g99, ⟨pm_g100, ⟨pm_g101, ⟨pm_g102, ⟨pm_g103, ⟨pm_g104, ⟨pm_g105, ⟨pm_g106, ⟨pm_g107, ⟨pm_g108, ⟨pm_g109, ⟨pm_g110, ⟨pm_g111, pm_t112⟩⟩⟩⟩⟩⟩⟩⟩⟩⟩⟩⟩⟩⟩⟩⟩
def pm_l80 : List ma_M := pm_q80 :: pm_q81 :: pm_q82 :: pm_q83 :: pm_q84 :: pm_q85 :: pm_q86 :: pm_q87 :: pm_q88 :: pm_q89 :: pm_q90 :: pm_q91 :: pm_q92 :: pm_q93 :: pm_q94 :: pm_q95 :: pm_l96
theorem pm_t80 : pm_al 80 pm_l80 := ⟨pm_g80, ⟨pm_g81, ⟨pm_g82, ⟨pm_g83, ⟨pm_g84, ⟨pm_g85, ⟨pm_g86, ⟨pm_g87, ⟨pm_g88, ⟨pm_g89, ⟨pm_g90, ⟨pm_g91, ⟨pm_g92, ⟨pm_g93, ⟨pm_g94, ⟨pm_g95, pm_t96⟩⟩⟩⟩⟩⟩⟩⟩⟩⟩⟩⟩⟩⟩⟩⟩
def pm_l64 : List ma_M := pm_q64 :: pm_q65 :: pm_q66 :: pm_q67 :: pm_q68 :: pm_q69 :: pm_q70 :: pm_q71 :: pm_q72 :: pm_q73 :: pm_q74 :: pm_q75 :: pm_q76 :: pm_q77 :: pm_q78 :: pm_q79 :: pm_l80
theorem pm_t64 : pm_al 64 pm_l64 := ⟨pm_g64, ⟨pm_g65, ⟨pm_g66, ⟨pm_g67, ⟨pm_g68, ⟨pm_g69, ⟨pm_g70, ⟨pm_g71, ⟨pm_g72, ⟨pm_g73, ⟨pm_g74, ⟨pm_g75, ⟨pm_g76, ⟨pm_g77, ⟨pm_g78, ⟨pm_g79, pm_t80⟩⟩⟩⟩⟩⟩⟩⟩⟩⟩⟩⟩⟩⟩⟩⟩
def pm_l48 : List ma_M := pm_q48 :: pm_q49 :: pm_q50 :: pm_q51 :: pm_q52 :: pm_q53 :: pm_q54 :: pm_q55 :: pm_q56 :: pm_q57 :: pm_q58 :: pm_q59 :: pm_q60 :: pm_q61 :: pm_q62 :: pm_q63 :: pm_l64
theorem pm_t48 : pm_al 48 pm_l48 := ⟨pm_g48, ⟨pm_g49, ⟨pm_g50, ⟨pm_g51, ⟨pm_g52, ⟨pm_g53, ⟨pm_g54, ⟨pm_g55, ⟨pm_g56, ⟨pm_g57, ⟨pm_g58, ⟨pm_g59, ⟨pm_g60, ⟨pm_g61, ⟨pm_g62, ⟨pm_g63, pm_t64⟩⟩⟩⟩⟩⟩⟩⟩⟩⟩⟩⟩⟩⟩⟩⟩
def pm_l32 : List ma_M := pm_q32 :: pm_q33 :: pm_q34 :: pm_q35 :: pm_q36 :: pm_q37 :: pm_q38 :: pm_q39 :: pm_q40 :: pm_q41 :: pm_q42 :: pm_q43 :: pm_q44 :: pm_q45 :: pm_q46 :: pm_q47 :: pm_l48
theorem pm_t32 : pm_al 32 pm_l32 := ⟨pm_g32, ⟨pm_g33, ⟨pm_g34, ⟨pm_g35, ⟨pm_g36, ⟨pm_g37, ⟨pm_g38, ⟨pm_g39, ⟨pm_g40, ⟨pm_g41, ⟨pm_g42, ⟨pm_g43, ⟨pm_g44, ⟨pm_g45, ⟨pm_g46, ⟨pm_g47, pm_t48⟩⟩⟩⟩⟩⟩⟩⟩⟩⟩⟩⟩⟩⟩⟩⟩
def pm_l16 : List ma_M := pm_q16 :: pm_q17 :: pm_q18 :: pm_q19 :: pm_q20 :: pm_q21 :: pm_q22 :: pm_q23 :: pm_q24 :: pm_q25 :: pm_q26 :: pm_q27 :: pm_q28 :: pm_q29 :: pm_q30 :: pm_q31 :: pm_l32
theorem pm_t16 : pm_al 16 pm_l16 := ⟨pm_g16, ⟨pm_g17, ⟨pm_g18, ⟨pm_g19, ⟨pm_g20, ⟨pm_g21, ⟨pm_g22, ⟨pm_g23, ⟨pm_g24, ⟨pm_g25, ⟨pm_g26, ⟨pm_g27, ⟨pm_g28, ⟨pm_g29, ⟨pm_g30, ⟨pm_g31, pm_t32⟩⟩⟩⟩⟩⟩⟩⟩⟩⟩⟩⟩⟩⟩⟩⟩
def pm_l0 : List ma_M := pm_q0 :: pm_q1 :: pm_q2 :: pm_q3 :: pm_q4 :: pm_q5 :: pm_q6 :: pm_q7 :: pm_q8 :: pm_q9 :: pm_q10 :: pm_q11 :: pm_q12 :: pm_q13 :: pm_q14 :: pm_q15 :: pm_l16
theorem pm_t0 : pm_al 0 pm_l0 := ⟨pm_g0, ⟨pm_g1, ⟨pm_g2, ⟨pm_g3, ⟨pm_g4, ⟨pm_g5, ⟨pm_g6, ⟨pm_g7, ⟨pm_g8, ⟨pm_g9, ⟨pm_g10, ⟨pm_g11, ⟨pm_g12, ⟨pm_g13, ⟨pm_g14, ⟨pm_g15, pm_t16⟩⟩⟩⟩⟩⟩⟩⟩⟩⟩⟩⟩⟩⟩⟩⟩
theorem pm_mts : pm_mt = pm_l0 := rfl
theorem pm_mok (m : Nat) (q : ma_M) (h : pm_m m = some q) : pm_gd m q := by
  have := pm_al_get pm_l0 0 m q pm_t0 (by rw [← pm_mts]; exact h)
  rwa [Nat.zero_add] at this
